section
-- ===== PART A: goes FIRST, ahead of the names: the tables' words, and 'selects' of the private methods out of them =====
/-- a private method of a class that the tables say can be made, by its rows of tables_1 -/
def lw_okq (q : MethodName × Nat) : Prop := (q.1.cls ≠ "java/lang/invoke/MethodHandle" ∧ q.1.cls ≠ "java/lang/invoke/VarHandle") ∧ Cond.instantiable q.1.cls q.2 ∈ tables_1 ∧ Cond.privateMethod q.1 ∈ tables_1 ∧ Cond.instanceMethod q.1 ∈ tables_1
theorem lw_p0 : lw_okq (⟨"OutcropAges$Reader", "readToken", "()V"⟩, 7) := ⟨⟨by decide +kernel, by decide +kernel⟩, List.mem_of_getElem? (i := 27) (by decide +kernel), List.mem_of_getElem? (i := 305) (by decide +kernel), List.mem_of_getElem? (i := 306) (by decide +kernel)⟩
theorem lw_p1 : lw_okq (⟨"OutcropAges$Reader", "kindAt", "(I)I"⟩, 7) := ⟨⟨by decide +kernel, by decide +kernel⟩, List.mem_of_getElem? (i := 27) (by decide +kernel), List.mem_of_getElem? (i := 309) (by decide +kernel), List.mem_of_getElem? (i := 310) (by decide +kernel)⟩
theorem lw_p2 : lw_okq (⟨"OutcropAges$Reader", "readValue", "()V"⟩, 7) := ⟨⟨by decide +kernel, by decide +kernel⟩, List.mem_of_getElem? (i := 27) (by decide +kernel), List.mem_of_getElem? (i := 313) (by decide +kernel), List.mem_of_getElem? (i := 314) (by decide +kernel)⟩
theorem lw_p3 : lw_okq (⟨"OutcropAges$Reader", "readItem", "(Z)Z"⟩, 7) := ⟨⟨by decide +kernel, by decide +kernel⟩, List.mem_of_getElem? (i := 27) (by decide +kernel), List.mem_of_getElem? (i := 317) (by decide +kernel), List.mem_of_getElem? (i := 318) (by decide +kernel)⟩
theorem lw_p4 : lw_okq (⟨"OutcropAges$Reader", "isRow", "(Ljava/lang/String;)Z"⟩, 7) := ⟨⟨by decide +kernel, by decide +kernel⟩, List.mem_of_getElem? (i := 27) (by decide +kernel), List.mem_of_getElem? (i := 322) (by decide +kernel), List.mem_of_getElem? (i := 323) (by decide +kernel)⟩
theorem lw_p5 : lw_okq (⟨"OutcropAges$Reader", "readEvents", "()Z"⟩, 7) := ⟨⟨by decide +kernel, by decide +kernel⟩, List.mem_of_getElem? (i := 27) (by decide +kernel), List.mem_of_getElem? (i := 374) (by decide +kernel), List.mem_of_getElem? (i := 375) (by decide +kernel)⟩
theorem lw_p6 : lw_okq (⟨"OutcropAges$Reader", "readObservation", "()Z"⟩, 7) := ⟨⟨by decide +kernel, by decide +kernel⟩, List.mem_of_getElem? (i := 27) (by decide +kernel), List.mem_of_getElem? (i := 378) (by decide +kernel), List.mem_of_getElem? (i := 379) (by decide +kernel)⟩
theorem lw_p7 : lw_okq (⟨"OutcropAges$Reader", "eventOfToken", "()I"⟩, 7) := ⟨⟨by decide +kernel, by decide +kernel⟩, List.mem_of_getElem? (i := 27) (by decide +kernel), List.mem_of_getElem? (i := 382) (by decide +kernel), List.mem_of_getElem? (i := 383) (by decide +kernel)⟩
theorem lw_p8 : lw_okq (⟨"OutcropAges$Reader", "setOfToken", "()I"⟩, 7) := ⟨⟨by decide +kernel, by decide +kernel⟩, List.mem_of_getElem? (i := 27) (by decide +kernel), List.mem_of_getElem? (i := 390) (by decide +kernel), List.mem_of_getElem? (i := 391) (by decide +kernel)⟩
theorem lw_p9 : lw_okq (⟨"OutcropAges$Past", "loseOldest", "()V"⟩, 2) := ⟨⟨by decide +kernel, by decide +kernel⟩, List.mem_of_getElem? (i := 95) (by decide +kernel), List.mem_of_getElem? (i := 444) (by decide +kernel), List.mem_of_getElem? (i := 445) (by decide +kernel)⟩
theorem lw_p10 : lw_okq (⟨"OutcropAges$Net", "spread", "(II)I"⟩, 4) := ⟨⟨by decide +kernel, by decide +kernel⟩, List.mem_of_getElem? (i := 136) (by decide +kernel), List.mem_of_getElem? (i := 531) (by decide +kernel), List.mem_of_getElem? (i := 532) (by decide +kernel)⟩
theorem lw_p11 : lw_okq (⟨"OutcropAges$Net", "narrow", "(III)I"⟩, 4) := ⟨⟨by decide +kernel, by decide +kernel⟩, List.mem_of_getElem? (i := 136) (by decide +kernel), List.mem_of_getElem? (i := 535) (by decide +kernel), List.mem_of_getElem? (i := 536) (by decide +kernel)⟩
theorem lw_p12 : lw_okq (⟨"OutcropAges$Line", "search", "(IIIIII)Z"⟩, 10) := ⟨⟨by decide +kernel, by decide +kernel⟩, List.mem_of_getElem? (i := 158) (by decide +kernel), List.mem_of_getElem? (i := 571) (by decide +kernel), List.mem_of_getElem? (i := 572) (by decide +kernel)⟩
theorem lw_p13 : lw_okq (⟨"OutcropAges$Line", "write", "()V"⟩, 10) := ⟨⟨by decide +kernel, by decide +kernel⟩, List.mem_of_getElem? (i := 158) (by decide +kernel), List.mem_of_getElem? (i := 575) (by decide +kernel), List.mem_of_getElem? (i := 576) (by decide +kernel)⟩
theorem lw_p14 : lw_okq (⟨"OutcropAges$Line", "place", "(IIIII)V"⟩, 10) := ⟨⟨by decide +kernel, by decide +kernel⟩, List.mem_of_getElem? (i := 158) (by decide +kernel), List.mem_of_getElem? (i := 582) (by decide +kernel), List.mem_of_getElem? (i := 583) (by decide +kernel)⟩
theorem lw_p15 : lw_okq (⟨"OutcropAges$Line", "leavesRoom", "(I)Z"⟩, 10) := ⟨⟨by decide +kernel, by decide +kernel⟩, List.mem_of_getElem? (i := 158) (by decide +kernel), List.mem_of_getElem? (i := 586) (by decide +kernel), List.mem_of_getElem? (i := 587) (by decide +kernel)⟩
def lw_privs_1 : List (MethodName × Nat) := [(⟨"OutcropAges$Reader", "readToken", "()V"⟩, 7), (⟨"OutcropAges$Reader", "kindAt", "(I)I"⟩, 7), (⟨"OutcropAges$Reader", "readValue", "()V"⟩, 7), (⟨"OutcropAges$Reader", "readItem", "(Z)Z"⟩, 7), (⟨"OutcropAges$Reader", "isRow", "(Ljava/lang/String;)Z"⟩, 7), (⟨"OutcropAges$Reader", "readEvents", "()Z"⟩, 7), (⟨"OutcropAges$Reader", "readObservation", "()Z"⟩, 7), (⟨"OutcropAges$Reader", "eventOfToken", "()I"⟩, 7), (⟨"OutcropAges$Reader", "setOfToken", "()I"⟩, 7), (⟨"OutcropAges$Past", "loseOldest", "()V"⟩, 2), (⟨"OutcropAges$Net", "spread", "(II)I"⟩, 4), (⟨"OutcropAges$Net", "narrow", "(III)I"⟩, 4), (⟨"OutcropAges$Line", "search", "(IIIIII)Z"⟩, 10), (⟨"OutcropAges$Line", "write", "()V"⟩, 10), (⟨"OutcropAges$Line", "place", "(IIIII)V"⟩, 10), (⟨"OutcropAges$Line", "leavesRoom", "(I)Z"⟩, 10)]
theorem lw_r1 : ∀ q ∈ lw_privs_1, lw_okq q := List.forall_mem_cons.mpr ⟨lw_p0, List.forall_mem_cons.mpr ⟨lw_p1, List.forall_mem_cons.mpr ⟨lw_p2, List.forall_mem_cons.mpr ⟨lw_p3, List.forall_mem_cons.mpr ⟨lw_p4, List.forall_mem_cons.mpr ⟨lw_p5, List.forall_mem_cons.mpr ⟨lw_p6, List.forall_mem_cons.mpr ⟨lw_p7, List.forall_mem_cons.mpr ⟨lw_p8, List.forall_mem_cons.mpr ⟨lw_p9, List.forall_mem_cons.mpr ⟨lw_p10, List.forall_mem_cons.mpr ⟨lw_p11, List.forall_mem_cons.mpr ⟨lw_p12, List.forall_mem_cons.mpr ⟨lw_p13, List.forall_mem_cons.mpr ⟨lw_p14, List.forall_mem_cons.mpr ⟨lw_p15, fun _ h => absurd h List.not_mem_nil⟩⟩⟩⟩⟩⟩⟩⟩⟩⟩⟩⟩⟩⟩⟩⟩
theorem lw_p16 : lw_okq (⟨"OutcropAges$Line", "narrow", "([III)I"⟩, 10) := ⟨⟨by decide +kernel, by decide +kernel⟩, List.mem_of_getElem? (i := 158) (by decide +kernel), List.mem_of_getElem? (i := 590) (by decide +kernel), List.mem_of_getElem? (i := 591) (by decide +kernel)⟩
theorem lw_p17 : lw_okq (⟨"OutcropAges$Line", "zoneStart", "(II)I"⟩, 10) := ⟨⟨by decide +kernel, by decide +kernel⟩, List.mem_of_getElem? (i := 158) (by decide +kernel), List.mem_of_getElem? (i := 601) (by decide +kernel), List.mem_of_getElem? (i := 602) (by decide +kernel)⟩
theorem lw_p18 : lw_okq (⟨"OutcropAges$Line", "zoneEnd", "(II)I"⟩, 10) := ⟨⟨by decide +kernel, by decide +kernel⟩, List.mem_of_getElem? (i := 158) (by decide +kernel), List.mem_of_getElem? (i := 605) (by decide +kernel), List.mem_of_getElem? (i := 606) (by decide +kernel)⟩
theorem lw_p19 : lw_okq (⟨"OutcropAges$Findings", "mark", "(LOutcropAges$Line;)V"⟩, 10) := ⟨⟨by decide +kernel, by decide +kernel⟩, List.mem_of_getElem? (i := 112) (by decide +kernel), List.mem_of_getElem? (i := 612) (by decide +kernel), List.mem_of_getElem? (i := 613) (by decide +kernel)⟩
theorem lw_p20 : lw_okq (⟨"OutcropAges$Findings", "tryRelation", "(III)V"⟩, 10) := ⟨⟨by decide +kernel, by decide +kernel⟩, List.mem_of_getElem? (i := 112) (by decide +kernel), List.mem_of_getElem? (i := 625) (by decide +kernel), List.mem_of_getElem? (i := 626) (by decide +kernel)⟩
theorem lw_p21 : lw_okq (⟨"OutcropAges$Line", "pointsAhead", "(I)I"⟩, 10) := ⟨⟨by decide +kernel, by decide +kernel⟩, List.mem_of_getElem? (i := 158) (by decide +kernel), List.mem_of_getElem? (i := 653) (by decide +kernel), List.mem_of_getElem? (i := 654) (by decide +kernel)⟩
theorem lw_p22 : lw_okq (⟨"OutcropAges$Line", "isFirstAtItsTime", "(I)Z"⟩, 10) := ⟨⟨by decide +kernel, by decide +kernel⟩, List.mem_of_getElem? (i := 158) (by decide +kernel), List.mem_of_getElem? (i := 657) (by decide +kernel), List.mem_of_getElem? (i := 658) (by decide +kernel)⟩
theorem lw_p23 : lw_okq (⟨"OutcropAges$Findings", "hasHistoryWithout", "(I)Z"⟩, 10) := ⟨⟨by decide +kernel, by decide +kernel⟩, List.mem_of_getElem? (i := 112) (by decide +kernel), List.mem_of_getElem? (i := 669) (by decide +kernel), List.mem_of_getElem? (i := 670) (by decide +kernel)⟩
theorem lw_p24 : lw_okq (⟨"OutcropAgesModel", "relationOf", "(II)I"⟩, 30) := ⟨⟨by decide +kernel, by decide +kernel⟩, List.mem_of_getElem? (i := 740) (by decide +kernel), List.mem_of_getElem? (i := 746) (by decide +kernel), List.mem_of_getElem? (i := 747) (by decide +kernel)⟩
theorem lw_p25 : lw_okq (⟨"OutcropAgesModel", "composedOf", "(II)I"⟩, 30) := ⟨⟨by decide +kernel, by decide +kernel⟩, List.mem_of_getElem? (i := 740) (by decide +kernel), List.mem_of_getElem? (i := 861) (by decide +kernel), List.mem_of_getElem? (i := 862) (by decide +kernel)⟩
theorem lw_p26 : lw_okq (⟨"OutcropAgesModel", "isEvent", "(I)Z"⟩, 30) := ⟨⟨by decide +kernel, by decide +kernel⟩, List.mem_of_getElem? (i := 740) (by decide +kernel), List.mem_of_getElem? (i := 869) (by decide +kernel), List.mem_of_getElem? (i := 870) (by decide +kernel)⟩
theorem lw_p27 : lw_okq (⟨"OutcropAgesModel", "toldOf", "(III)I"⟩, 30) := ⟨⟨by decide +kernel, by decide +kernel⟩, List.mem_of_getElem? (i := 740) (by decide +kernel), List.mem_of_getElem? (i := 873) (by decide +kernel), List.mem_of_getElem? (i := 874) (by decide +kernel)⟩
theorem lw_p28 : lw_okq (⟨"OutcropAgesModel", "x", "(I)I"⟩, 30) := ⟨⟨by decide +kernel, by decide +kernel⟩, List.mem_of_getElem? (i := 740) (by decide +kernel), List.mem_of_getElem? (i := 877) (by decide +kernel), List.mem_of_getElem? (i := 878) (by decide +kernel)⟩
theorem lw_p29 : lw_okq (⟨"OutcropAgesModel", "y", "(I)I"⟩, 30) := ⟨⟨by decide +kernel, by decide +kernel⟩, List.mem_of_getElem? (i := 740) (by decide +kernel), List.mem_of_getElem? (i := 881) (by decide +kernel), List.mem_of_getElem? (i := 882) (by decide +kernel)⟩
theorem lw_p30 : lw_okq (⟨"OutcropAgesModel", "set", "(I)I"⟩, 30) := ⟨⟨by decide +kernel, by decide +kernel⟩, List.mem_of_getElem? (i := 740) (by decide +kernel), List.mem_of_getElem? (i := 885) (by decide +kernel), List.mem_of_getElem? (i := 886) (by decide +kernel)⟩
theorem lw_p31 : lw_okq (⟨"OutcropAgesModel", "lays", "()V"⟩, 30) := ⟨⟨by decide +kernel, by decide +kernel⟩, List.mem_of_getElem? (i := 740) (by decide +kernel), List.mem_of_getElem? (i := 892) (by decide +kernel), List.mem_of_getElem? (i := 893) (by decide +kernel)⟩
def lw_privs_2 : List (MethodName × Nat) := [(⟨"OutcropAges$Line", "narrow", "([III)I"⟩, 10), (⟨"OutcropAges$Line", "zoneStart", "(II)I"⟩, 10), (⟨"OutcropAges$Line", "zoneEnd", "(II)I"⟩, 10), (⟨"OutcropAges$Findings", "mark", "(LOutcropAges$Line;)V"⟩, 10), (⟨"OutcropAges$Findings", "tryRelation", "(III)V"⟩, 10), (⟨"OutcropAges$Line", "pointsAhead", "(I)I"⟩, 10), (⟨"OutcropAges$Line", "isFirstAtItsTime", "(I)Z"⟩, 10), (⟨"OutcropAges$Findings", "hasHistoryWithout", "(I)Z"⟩, 10), (⟨"OutcropAgesModel", "relationOf", "(II)I"⟩, 30), (⟨"OutcropAgesModel", "composedOf", "(II)I"⟩, 30), (⟨"OutcropAgesModel", "isEvent", "(I)Z"⟩, 30), (⟨"OutcropAgesModel", "toldOf", "(III)I"⟩, 30), (⟨"OutcropAgesModel", "x", "(I)I"⟩, 30), (⟨"OutcropAgesModel", "y", "(I)I"⟩, 30), (⟨"OutcropAgesModel", "set", "(I)I"⟩, 30), (⟨"OutcropAgesModel", "lays", "()V"⟩, 30)]
theorem lw_r2 : ∀ q ∈ lw_privs_2, lw_okq q := List.forall_mem_cons.mpr ⟨lw_p16, List.forall_mem_cons.mpr ⟨lw_p17, List.forall_mem_cons.mpr ⟨lw_p18, List.forall_mem_cons.mpr ⟨lw_p19, List.forall_mem_cons.mpr ⟨lw_p20, List.forall_mem_cons.mpr ⟨lw_p21, List.forall_mem_cons.mpr ⟨lw_p22, List.forall_mem_cons.mpr ⟨lw_p23, List.forall_mem_cons.mpr ⟨lw_p24, List.forall_mem_cons.mpr ⟨lw_p25, List.forall_mem_cons.mpr ⟨lw_p26, List.forall_mem_cons.mpr ⟨lw_p27, List.forall_mem_cons.mpr ⟨lw_p28, List.forall_mem_cons.mpr ⟨lw_p29, List.forall_mem_cons.mpr ⟨lw_p30, List.forall_mem_cons.mpr ⟨lw_p31, fun _ h => absurd h List.not_mem_nil⟩⟩⟩⟩⟩⟩⟩⟩⟩⟩⟩⟩⟩⟩⟩⟩
theorem lw_p32 : lw_okq (⟨"OutcropAgesModel", "isWithout", "(I)Z"⟩, 30) := ⟨⟨by decide +kernel, by decide +kernel⟩, List.mem_of_getElem? (i := 740) (by decide +kernel), List.mem_of_getElem? (i := 896) (by decide +kernel), List.mem_of_getElem? (i := 897) (by decide +kernel)⟩
theorem lw_p33 : lw_okq (⟨"OutcropAgesModel", "lets", "(I)V"⟩, 30) := ⟨⟨by decide +kernel, by decide +kernel⟩, List.mem_of_getElem? (i := 740) (by decide +kernel), List.mem_of_getElem? (i := 900) (by decide +kernel), List.mem_of_getElem? (i := 901) (by decide +kernel)⟩
theorem lw_p34 : lw_okq (⟨"OutcropAgesModel", "pairs", "()I"⟩, 30) := ⟨⟨by decide +kernel, by decide +kernel⟩, List.mem_of_getElem? (i := 740) (by decide +kernel), List.mem_of_getElem? (i := 904) (by decide +kernel), List.mem_of_getElem? (i := 905) (by decide +kernel)⟩
theorem lw_p35 : lw_okq (⟨"OutcropAgesModel", "isNext", "(Z)Z"⟩, 30) := ⟨⟨by decide +kernel, by decide +kernel⟩, List.mem_of_getElem? (i := 740) (by decide +kernel), List.mem_of_getElem? (i := 917) (by decide +kernel), List.mem_of_getElem? (i := 918) (by decide +kernel)⟩
theorem lw_p36 : lw_okq (⟨"OutcropAgesModel", "agrees", "(I)Z"⟩, 30) := ⟨⟨by decide +kernel, by decide +kernel⟩, List.mem_of_getElem? (i := 740) (by decide +kernel), List.mem_of_getElem? (i := 921) (by decide +kernel), List.mem_of_getElem? (i := 922) (by decide +kernel)⟩
theorem lw_p37 : lw_okq (⟨"OutcropAgesModel", "closes", "()V"⟩, 30) := ⟨⟨by decide +kernel, by decide +kernel⟩, List.mem_of_getElem? (i := 740) (by decide +kernel), List.mem_of_getElem? (i := 925) (by decide +kernel), List.mem_of_getElem? (i := 926) (by decide +kernel)⟩
theorem lw_p38 : lw_okq (⟨"OutcropAgesModel", "reallyOf", "(II)I"⟩, 30) := ⟨⟨by decide +kernel, by decide +kernel⟩, List.mem_of_getElem? (i := 740) (by decide +kernel), List.mem_of_getElem? (i := 929) (by decide +kernel), List.mem_of_getElem? (i := 930) (by decide +kernel)⟩
theorem lw_p39 : lw_okq (⟨"OutcropAgesModel", "areTwo", "(II)Z"⟩, 30) := ⟨⟨by decide +kernel, by decide +kernel⟩, List.mem_of_getElem? (i := 740) (by decide +kernel), List.mem_of_getElem? (i := 941) (by decide +kernel), List.mem_of_getElem? (i := 942) (by decide +kernel)⟩
theorem lw_p40 : lw_okq (⟨"OutcropAgesModel", "triedOf", "(II)I"⟩, 30) := ⟨⟨by decide +kernel, by decide +kernel⟩, List.mem_of_getElem? (i := 740) (by decide +kernel), List.mem_of_getElem? (i := 945) (by decide +kernel), List.mem_of_getElem? (i := 946) (by decide +kernel)⟩
theorem lw_p41 : lw_okq (⟨"OutcropAgesModel", "timesAhead", "(I)I"⟩, 30) := ⟨⟨by decide +kernel, by decide +kernel⟩, List.mem_of_getElem? (i := 740) (by decide +kernel), List.mem_of_getElem? (i := 953) (by decide +kernel), List.mem_of_getElem? (i := 954) (by decide +kernel)⟩
theorem lw_p42 : lw_okq (⟨"OutcropAgesModel", "farOf", "(II)I"⟩, 30) := ⟨⟨by decide +kernel, by decide +kernel⟩, List.mem_of_getElem? (i := 740) (by decide +kernel), List.mem_of_getElem? (i := 957) (by decide +kernel), List.mem_of_getElem? (i := 958) (by decide +kernel)⟩
theorem lw_p43 : lw_okq (⟨"OutcropAgesModel", "quarrel", "()I"⟩, 30) := ⟨⟨by decide +kernel, by decide +kernel⟩, List.mem_of_getElem? (i := 740) (by decide +kernel), List.mem_of_getElem? (i := 965) (by decide +kernel), List.mem_of_getElem? (i := 966) (by decide +kernel)⟩
theorem lw_p44 : lw_okq (⟨"OutcropAgesModel", "blame", "()I"⟩, 30) := ⟨⟨by decide +kernel, by decide +kernel⟩, List.mem_of_getElem? (i := 740) (by decide +kernel), List.mem_of_getElem? (i := 969) (by decide +kernel), List.mem_of_getElem? (i := 970) (by decide +kernel)⟩
theorem lw_p45 : lw_okq (⟨"OutcropAgesModel", "isObservation", "(I)Z"⟩, 30) := ⟨⟨by decide +kernel, by decide +kernel⟩, List.mem_of_getElem? (i := 740) (by decide +kernel), List.mem_of_getElem? (i := 1000) (by decide +kernel), List.mem_of_getElem? (i := 1001) (by decide +kernel)⟩
theorem lw_p46 : lw_okq (⟨"OutcropAgesModel", "deed", "()V"⟩, 30) := ⟨⟨by decide +kernel, by decide +kernel⟩, List.mem_of_getElem? (i := 740) (by decide +kernel), List.mem_of_getElem? (i := 1008) (by decide +kernel), List.mem_of_getElem? (i := 1009) (by decide +kernel)⟩
theorem lw_p47 : lw_okq (⟨"OutcropAgesModel", "split", "()V"⟩, 30) := ⟨⟨by decide +kernel, by decide +kernel⟩, List.mem_of_getElem? (i := 740) (by decide +kernel), List.mem_of_getElem? (i := 1044) (by decide +kernel), List.mem_of_getElem? (i := 1045) (by decide +kernel)⟩
def lw_privs_3 : List (MethodName × Nat) := [(⟨"OutcropAgesModel", "isWithout", "(I)Z"⟩, 30), (⟨"OutcropAgesModel", "lets", "(I)V"⟩, 30), (⟨"OutcropAgesModel", "pairs", "()I"⟩, 30), (⟨"OutcropAgesModel", "isNext", "(Z)Z"⟩, 30), (⟨"OutcropAgesModel", "agrees", "(I)Z"⟩, 30), (⟨"OutcropAgesModel", "closes", "()V"⟩, 30), (⟨"OutcropAgesModel", "reallyOf", "(II)I"⟩, 30), (⟨"OutcropAgesModel", "areTwo", "(II)Z"⟩, 30), (⟨"OutcropAgesModel", "triedOf", "(II)I"⟩, 30), (⟨"OutcropAgesModel", "timesAhead", "(I)I"⟩, 30), (⟨"OutcropAgesModel", "farOf", "(II)I"⟩, 30), (⟨"OutcropAgesModel", "quarrel", "()I"⟩, 30), (⟨"OutcropAgesModel", "blame", "()I"⟩, 30), (⟨"OutcropAgesModel", "isObservation", "(I)Z"⟩, 30), (⟨"OutcropAgesModel", "deed", "()V"⟩, 30), (⟨"OutcropAgesModel", "split", "()V"⟩, 30)]
theorem lw_r3 : ∀ q ∈ lw_privs_3, lw_okq q := List.forall_mem_cons.mpr ⟨lw_p32, List.forall_mem_cons.mpr ⟨lw_p33, List.forall_mem_cons.mpr ⟨lw_p34, List.forall_mem_cons.mpr ⟨lw_p35, List.forall_mem_cons.mpr ⟨lw_p36, List.forall_mem_cons.mpr ⟨lw_p37, List.forall_mem_cons.mpr ⟨lw_p38, List.forall_mem_cons.mpr ⟨lw_p39, List.forall_mem_cons.mpr ⟨lw_p40, List.forall_mem_cons.mpr ⟨lw_p41, List.forall_mem_cons.mpr ⟨lw_p42, List.forall_mem_cons.mpr ⟨lw_p43, List.forall_mem_cons.mpr ⟨lw_p44, List.forall_mem_cons.mpr ⟨lw_p45, List.forall_mem_cons.mpr ⟨lw_p46, List.forall_mem_cons.mpr ⟨lw_p47, fun _ h => absurd h List.not_mem_nil⟩⟩⟩⟩⟩⟩⟩⟩⟩⟩⟩⟩⟩⟩⟩⟩
theorem lw_p48 : lw_okq (⟨"OutcropAgesModel", "row", "(III)I"⟩, 30) := ⟨⟨by decide +kernel, by decide +kernel⟩, List.mem_of_getElem? (i := 740) (by decide +kernel), List.mem_of_getElem? (i := 1048) (by decide +kernel), List.mem_of_getElem? (i := 1049) (by decide +kernel)⟩
theorem lw_p49 : lw_okq (⟨"OutcropAgesModel", "isWord", "(J)Z"⟩, 30) := ⟨⟨by decide +kernel, by decide +kernel⟩, List.mem_of_getElem? (i := 740) (by decide +kernel), List.mem_of_getElem? (i := 1053) (by decide +kernel), List.mem_of_getElem? (i := 1054) (by decide +kernel)⟩
theorem lw_p50 : lw_okq (⟨"OutcropAgesModel", "isKind", "(I)Z"⟩, 30) := ⟨⟨by decide +kernel, by decide +kernel⟩, List.mem_of_getElem? (i := 740) (by decide +kernel), List.mem_of_getElem? (i := 1057) (by decide +kernel), List.mem_of_getElem? (i := 1058) (by decide +kernel)⟩
theorem lw_p51 : lw_okq (⟨"OutcropAgesModel", "letterAt", "(I)I"⟩, 30) := ⟨⟨by decide +kernel, by decide +kernel⟩, List.mem_of_getElem? (i := 740) (by decide +kernel), List.mem_of_getElem? (i := 1062) (by decide +kernel), List.mem_of_getElem? (i := 1063) (by decide +kernel)⟩
theorem lw_p52 : lw_okq (⟨"OutcropAgesModel", "manyTold", "()I"⟩, 30) := ⟨⟨by decide +kernel, by decide +kernel⟩, List.mem_of_getElem? (i := 740) (by decide +kernel), List.mem_of_getElem? (i := 1066) (by decide +kernel), List.mem_of_getElem? (i := 1067) (by decide +kernel)⟩
theorem lw_p53 : lw_okq (⟨"OutcropAgesModel", "item", "(I)Z"⟩, 30) := ⟨⟨by decide +kernel, by decide +kernel⟩, List.mem_of_getElem? (i := 740) (by decide +kernel), List.mem_of_getElem? (i := 1070) (by decide +kernel), List.mem_of_getElem? (i := 1071) (by decide +kernel)⟩
theorem lw_p54 : lw_okq (⟨"OutcropAgesModel", "takesEvent", "(II)Z"⟩, 30) := ⟨⟨by decide +kernel, by decide +kernel⟩, List.mem_of_getElem? (i := 740) (by decide +kernel), List.mem_of_getElem? (i := 1074) (by decide +kernel), List.mem_of_getElem? (i := 1075) (by decide +kernel)⟩
theorem lw_p55 : lw_okq (⟨"OutcropAgesModel", "setTold", "()I"⟩, 30) := ⟨⟨by decide +kernel, by decide +kernel⟩, List.mem_of_getElem? (i := 740) (by decide +kernel), List.mem_of_getElem? (i := 1078) (by decide +kernel), List.mem_of_getElem? (i := 1079) (by decide +kernel)⟩
def lw_privs_4 : List (MethodName × Nat) := [(⟨"OutcropAgesModel", "row", "(III)I"⟩, 30), (⟨"OutcropAgesModel", "isWord", "(J)Z"⟩, 30), (⟨"OutcropAgesModel", "isKind", "(I)Z"⟩, 30), (⟨"OutcropAgesModel", "letterAt", "(I)I"⟩, 30), (⟨"OutcropAgesModel", "manyTold", "()I"⟩, 30), (⟨"OutcropAgesModel", "item", "(I)Z"⟩, 30), (⟨"OutcropAgesModel", "takesEvent", "(II)Z"⟩, 30), (⟨"OutcropAgesModel", "setTold", "()I"⟩, 30)]
theorem lw_r4 : ∀ q ∈ lw_privs_4, lw_okq q := List.forall_mem_cons.mpr ⟨lw_p48, List.forall_mem_cons.mpr ⟨lw_p49, List.forall_mem_cons.mpr ⟨lw_p50, List.forall_mem_cons.mpr ⟨lw_p51, List.forall_mem_cons.mpr ⟨lw_p52, List.forall_mem_cons.mpr ⟨lw_p53, List.forall_mem_cons.mpr ⟨lw_p54, List.forall_mem_cons.mpr ⟨lw_p55, fun _ h => absurd h List.not_mem_nil⟩⟩⟩⟩⟩⟩⟩⟩
def lw_privs : List (MethodName × Nat) := lw_privs_1 ++ (lw_privs_2 ++ (lw_privs_3 ++ (lw_privs_4)))
def lw_tbl : List Cond := k2_sels lw_privs ++ tables_1
theorem lw_privs_ok : ∀ q ∈ lw_privs, lw_okq q := by
  show ∀ q ∈ lw_privs_1 ++ (lw_privs_2 ++ (lw_privs_3 ++ (lw_privs_4))), lw_okq q
  exact List.forall_mem_append.mpr ⟨lw_r1, List.forall_mem_append.mpr ⟨lw_r2, List.forall_mem_append.mpr ⟨lw_r3, lw_r4⟩⟩⟩

def RX0 : String := "OutcropAges$Algebra"
def TX0 : u_T := fun k => match k with
  | 0 => ("OutcropAges$Algebra", "low", "[I", true)
  | _ => ("OutcropAges$Algebra", "high", "[I", true)
def tyX0 : Nat → FieldType := fun k => match k with
  | 0 => .array .int
  | _ => .array .int
abbrev wsX00 : List Cond := u_ws RX0 TX0 2
theorem nmX0 : ∀ a, a < 2 → ∀ b, b < 2 → a ≠ b → (TX0 a).2.1 ≠ (TX0 b).2.1 := by decide +kernel
theorem tyX0_ok : ∀ k, k < 2 → parseFieldDescriptor (TX0 k).2.2.1 = some (tyX0 k) := by decide +kernel
abbrev cX0_init : ByteArray := prog_2_method_1_code
def yX0_init : MethodName := ⟨RX0, "<init>", "()V"⟩
abbrev cX0_addRelation : ByteArray := prog_2_method_2_code
def yX0_addRelation : MethodName := ⟨RX0, "addRelation", "([IIII)V"⟩
abbrev cX0_turn : ByteArray := prog_2_method_3_code
def yX0_turn : MethodName := ⟨RX0, "turn", "(I)I"⟩
abbrev cX0_composeOne : ByteArray := prog_2_method_4_code
def yX0_composeOne : MethodName := ⟨RX0, "composeOne", "(II)I"⟩
abbrev cX0_compose : ByteArray := prog_2_method_5_code
def yX0_compose : MethodName := ⟨RX0, "compose", "(II)I"⟩
def RX1 : String := "OutcropAges$Book"
def TX1 : u_T := fun k => match k with
  | 0 => ("OutcropAges$Book", "xs", "[I", true)
  | 1 => ("OutcropAges$Book", "sets", "[I", true)
  | 2 => ("OutcropAges$Book", "ys", "[I", true)
  | 3 => ("OutcropAges$Book", "size", "I", false)
  | _ => ("OutcropAges$Book", "events", "I", false)
def tyX1 : Nat → FieldType := fun k => match k with
  | 0 => .array .int
  | 1 => .array .int
  | 2 => .array .int
  | 3 => .int
  | _ => .int
abbrev wsX10 : List Cond := u_ws RX1 TX1 5
theorem nmX1 : ∀ a, a < 5 → ∀ b, b < 5 → a ≠ b → (TX1 a).2.1 ≠ (TX1 b).2.1 := by decide +kernel
theorem tyX1_ok : ∀ k, k < 5 → parseFieldDescriptor (TX1 k).2.2.1 = some (tyX1 k) := by decide +kernel
abbrev cX1_init : ByteArray := prog_3_method_1_code
def yX1_init : MethodName := ⟨RX1, "<init>", "()V"⟩
abbrev cX1_isEvent : ByteArray := prog_3_method_2_code
def yX1_isEvent : MethodName := ⟨RX1, "isEvent", "(I)Z"⟩
abbrev cX1_areTwo : ByteArray := prog_3_method_3_code
def yX1_areTwo : MethodName := ⟨RX1, "areTwo", "(II)Z"⟩
abbrev cX1_isObservation : ByteArray := prog_3_method_4_code
def yX1_isObservation : MethodName := ⟨RX1, "isObservation", "(I)Z"⟩
abbrev cX1_append : ByteArray := prog_3_method_5_code
def yX1_append : MethodName := ⟨RX1, "append", "(III)V"⟩
abbrev cX1_remove : ByteArray := prog_3_method_6_code
def yX1_remove : MethodName := ⟨RX1, "remove", "(I)V"⟩
abbrev cX1_copyFrom : ByteArray := prog_3_method_7_code
def yX1_copyFrom : MethodName := ⟨RX1, "copyFrom", "(LOutcropAges$Book;)V"⟩
def RX2 : String := "OutcropAges$Findings"
def TX2 : u_T := fun k => match k with
  | 0 => ("OutcropAges$Findings", "book", "LOutcropAges$Book;", true)
  | 1 => ("OutcropAges$Findings", "algebra", "LOutcropAges$Algebra;", true)
  | 2 => ("OutcropAges$Findings", "told", "LOutcropAges$Net;", true)
  | 3 => ("OutcropAges$Findings", "closed", "LOutcropAges$Net;", true)
  | 4 => ("OutcropAges$Findings", "really", "LOutcropAges$Net;", true)
  | 5 => ("OutcropAges$Findings", "line", "LOutcropAges$Line;", true)
  | 6 => ("OutcropAges$Findings", "trial", "LOutcropAges$Net;", true)
  | 7 => ("OutcropAges$Findings", "trialLine", "LOutcropAges$Line;", true)
  | 8 => ("OutcropAges$Findings", "closedIsKnown", "Z", false)
  | _ => ("OutcropAges$Findings", "reallyIsKnown", "Z", false)
def tyX2 : Nat → FieldType := fun k => match k with
  | 0 => .object "OutcropAges$Book"
  | 1 => .object "OutcropAges$Algebra"
  | 2 => .object "OutcropAges$Net"
  | 3 => .object "OutcropAges$Net"
  | 4 => .object "OutcropAges$Net"
  | 5 => .object "OutcropAges$Line"
  | 6 => .object "OutcropAges$Net"
  | 7 => .object "OutcropAges$Line"
  | 8 => .boolean
  | _ => .boolean
abbrev wsX20 : List Cond := u_ws RX2 TX2 10
theorem nmX2 : ∀ a, a < 10 → ∀ b, b < 10 → a ≠ b → (TX2 a).2.1 ≠ (TX2 b).2.1 := by decide +kernel
theorem tyX2_ok : ∀ k, k < 10 → parseFieldDescriptor (TX2 k).2.2.1 = some (tyX2 k) := by decide +kernel
abbrev cX2_init : ByteArray := prog_4_method_1_code
def yX2_init : MethodName := ⟨RX2, "<init>", "(LOutcropAges$Book;)V"⟩
abbrev cX2_forgetAll : ByteArray := prog_4_method_2_code
def yX2_forgetAll : MethodName := ⟨RX2, "forgetAll", "()V"⟩
abbrev cX2_toldNet : ByteArray := prog_4_method_3_code
def yX2_toldNet : MethodName := ⟨RX2, "toldNet", "()LOutcropAges$Net;"⟩
abbrev cX2_closedNet : ByteArray := prog_4_method_4_code
def yX2_closedNet : MethodName := ⟨RX2, "closedNet", "()LOutcropAges$Net;"⟩
abbrev cX2_findHistories : ByteArray := prog_4_method_5_code
def yX2_findHistories : MethodName := ⟨RX2, "findHistories", "(I)I"⟩
abbrev cX2_reallyNet : ByteArray := prog_4_method_6_code
def yX2_reallyNet : MethodName := ⟨RX2, "reallyNet", "()LOutcropAges$Net;"⟩
abbrev cX2_tryRelation : ByteArray := prog_4_method_7_code
def yX2_tryRelation : MethodName := ⟨RX2, "tryRelation", "(III)V"⟩
abbrev cX2_mark : ByteArray := prog_4_method_8_code
def yX2_mark : MethodName := ⟨RX2, "mark", "(LOutcropAges$Line;)V"⟩
abbrev cX2_hasHistoryWithout : ByteArray := prog_4_method_9_code
def yX2_hasHistoryWithout : MethodName := ⟨RX2, "hasHistoryWithout", "(I)Z"⟩
abbrev cX2_quarrel : ByteArray := prog_4_method_10_code
def yX2_quarrel : MethodName := ⟨RX2, "quarrel", "()I"⟩
abbrev cX2_blame : ByteArray := prog_4_method_11_code
def yX2_blame : MethodName := ⟨RX2, "blame", "()I"⟩
abbrev cX2_eldestEvents : ByteArray := prog_4_method_12_code
def yX2_eldestEvents : MethodName := ⟨RX2, "eldestEvents", "()I"⟩
abbrev cX2_suspects : ByteArray := prog_4_method_13_code
def yX2_suspects : MethodName := ⟨RX2, "suspects", "(LOutcropAges$Seen;)I"⟩
def RX3 : String := "OutcropAges$Line"
def TX3 : u_T := fun k => match k with
  | 0 => ("OutcropAges$Line", "net", "LOutcropAges$Net;", true)
  | 1 => ("OutcropAges$Line", "stages", "[[I", true)
  | 2 => ("OutcropAges$Line", "begins", "[I", true)
  | 3 => ("OutcropAges$Line", "ends", "[I", true)
  | 4 => ("OutcropAges$Line", "chosen", "[I", true)
  | 5 => ("OutcropAges$Line", "found", "[J", true)
  | 6 => ("OutcropAges$Line", "size", "I", false)
  | 7 => ("OutcropAges$Line", "wanted", "I", false)
  | 8 => ("OutcropAges$Line", "foundAll", "Z", false)
  | _ => ("OutcropAges$Line", "times", "[I", true)
def tyX3 : Nat → FieldType := fun k => match k with
  | 0 => .object "OutcropAges$Net"
  | 1 => .array (.array .int)
  | 2 => .array .int
  | 3 => .array .int
  | 4 => .array .int
  | 5 => .array .long
  | 6 => .int
  | 7 => .int
  | 8 => .boolean
  | _ => .array .int
abbrev wsX30 : List Cond := u_ws RX3 TX3 10
theorem nmX3 : ∀ a, a < 10 → ∀ b, b < 10 → a ≠ b → (TX3 a).2.1 ≠ (TX3 b).2.1 := by decide +kernel
theorem tyX3_ok : ∀ k, k < 10 → parseFieldDescriptor (TX3 k).2.2.1 = some (tyX3 k) := by decide +kernel
abbrev cX3_init : ByteArray := prog_5_method_1_code
def yX3_init : MethodName := ⟨RX3, "<init>", "(LOutcropAges$Net;I)V"⟩
abbrev cX3_dropAll : ByteArray := prog_5_method_2_code
def yX3_dropAll : MethodName := ⟨RX3, "dropAll", "()V"⟩
abbrev cX3_find : ByteArray := prog_5_method_3_code
def yX3_find : MethodName := ⟨RX3, "find", "(I)I"⟩
abbrev cX3_search : ByteArray := prog_5_method_4_code
def yX3_search : MethodName := ⟨RX3, "search", "(IIIIII)Z"⟩
abbrev cX3_zoneStart : ByteArray := prog_5_method_5_code
def yX3_zoneStart : MethodName := ⟨RX3, "zoneStart", "(II)I"⟩
abbrev cX3_zoneEnd : ByteArray := prog_5_method_6_code
def yX3_zoneEnd : MethodName := ⟨RX3, "zoneEnd", "(II)I"⟩
abbrev cX3_place : ByteArray := prog_5_method_7_code
def yX3_place : MethodName := ⟨RX3, "place", "(IIIII)V"⟩
abbrev cX3_leavesRoom : ByteArray := prog_5_method_8_code
def yX3_leavesRoom : MethodName := ⟨RX3, "leavesRoom", "(I)Z"⟩
abbrev cX3_narrow : ByteArray := prog_5_method_9_code
def yX3_narrow : MethodName := ⟨RX3, "narrow", "([III)I"⟩
abbrev cX3_write : ByteArray := prog_5_method_10_code
def yX3_write : MethodName := ⟨RX3, "write", "()V"⟩
abbrev cX3_relation : ByteArray := prog_5_method_11_code
def yX3_relation : MethodName := ⟨RX3, "relation", "(III)I"⟩
abbrev cX3_pointOf : ByteArray := prog_5_method_12_code
def yX3_pointOf : MethodName := ⟨RX3, "pointOf", "(II)I"⟩
abbrev cX3_allPoints : ByteArray := prog_5_method_13_code
def yX3_allPoints : MethodName := ⟨RX3, "allPoints", "()I"⟩
abbrev cX3_pointsAhead : ByteArray := prog_5_method_14_code
def yX3_pointsAhead : MethodName := ⟨RX3, "pointsAhead", "(I)I"⟩
abbrev cX3_isFirstAtItsTime : ByteArray := prog_5_method_15_code
def yX3_isFirstAtItsTime : MethodName := ⟨RX3, "isFirstAtItsTime", "(I)Z"⟩
def RX4 : String := "OutcropAges$Net"
def TX4 : u_T := fun k => match k with
  | 0 => ("OutcropAges$Net", "algebra", "LOutcropAges$Algebra;", true)
  | 1 => ("OutcropAges$Net", "sets", "[I", true)
  | 2 => ("OutcropAges$Net", "events", "I", false)
  | _ => ("OutcropAges$Net", "barren", "Z", false)
def tyX4 : Nat → FieldType := fun k => match k with
  | 0 => .object "OutcropAges$Algebra"
  | 1 => .array .int
  | 2 => .int
  | _ => .boolean
abbrev wsX40 : List Cond := u_ws RX4 TX4 4
theorem nmX4 : ∀ a, a < 4 → ∀ b, b < 4 → a ≠ b → (TX4 a).2.1 ≠ (TX4 b).2.1 := by decide +kernel
theorem tyX4_ok : ∀ k, k < 4 → parseFieldDescriptor (TX4 k).2.2.1 = some (tyX4 k) := by decide +kernel
abbrev cX4_init : ByteArray := prog_6_method_1_code
def yX4_init : MethodName := ⟨RX4, "<init>", "(LOutcropAges$Algebra;)V"⟩
abbrev cX4_at : ByteArray := prog_6_method_2_code
def yX4_at : MethodName := ⟨RX4, "at", "(II)I"⟩
abbrev cX4_put : ByteArray := prog_6_method_3_code
def yX4_put : MethodName := ⟨RX4, "put", "(III)V"⟩
abbrev cX4_tell : ByteArray := prog_6_method_4_code
def yX4_tell : MethodName := ⟨RX4, "tell", "(LOutcropAges$Book;I)V"⟩
abbrev cX4_hold : ByteArray := prog_6_method_5_code
def yX4_hold : MethodName := ⟨RX4, "hold", "(III)V"⟩
abbrev cX4_copyFrom : ByteArray := prog_6_method_6_code
def yX4_copyFrom : MethodName := ⟨RX4, "copyFrom", "(LOutcropAges$Net;)V"⟩
abbrev cX4_close : ByteArray := prog_6_method_7_code
def yX4_close : MethodName := ⟨RX4, "close", "(I)V"⟩
abbrev cX4_empty : ByteArray := prog_6_method_8_code
def yX4_empty : MethodName := ⟨RX4, "empty", "()V"⟩
abbrev cX4_spread : ByteArray := prog_6_method_9_code
def yX4_spread : MethodName := ⟨RX4, "spread", "(II)I"⟩
abbrev cX4_narrow : ByteArray := prog_6_method_10_code
def yX4_narrow : MethodName := ⟨RX4, "narrow", "(III)I"⟩
def RX5 : String := "OutcropAges$Past"
def TX5 : u_T := fun k => match k with
  | 0 => ("OutcropAges$Past", "books", "[LOutcropAges$Book;", true)
  | _ => ("OutcropAges$Past", "size", "I", false)
def tyX5 : Nat → FieldType := fun k => match k with
  | 0 => .array (.object "OutcropAges$Book")
  | _ => .int
abbrev wsX50 : List Cond := u_ws RX5 TX5 2
theorem nmX5 : ∀ a, a < 2 → ∀ b, b < 2 → a ≠ b → (TX5 a).2.1 ≠ (TX5 b).2.1 := by decide +kernel
theorem tyX5_ok : ∀ k, k < 2 → parseFieldDescriptor (TX5 k).2.2.1 = some (tyX5 k) := by decide +kernel
abbrev cX5_init : ByteArray := prog_7_method_1_code
def yX5_init : MethodName := ⟨RX5, "<init>", "()V"⟩
abbrev cX5_remember : ByteArray := prog_7_method_2_code
def yX5_remember : MethodName := ⟨RX5, "remember", "(LOutcropAges$Book;)V"⟩
abbrev cX5_loseOldest : ByteArray := prog_7_method_3_code
def yX5_loseOldest : MethodName := ⟨RX5, "loseOldest", "()V"⟩
abbrev cX5_recall : ByteArray := prog_7_method_4_code
def yX5_recall : MethodName := ⟨RX5, "recall", "(LOutcropAges$Book;)V"⟩
abbrev cX5_dropAll : ByteArray := prog_7_method_5_code
def yX5_dropAll : MethodName := ⟨RX5, "dropAll", "()V"⟩
def RX6 : String := "OutcropAges$Reader"
def TX6 : u_T := fun k => match k with
  | 0 => ("OutcropAges$Reader", "book", "LOutcropAges$Book;", true)
  | 1 => ("OutcropAges$Reader", "text", "[I", true)
  | 2 => ("OutcropAges$Reader", "length", "I", false)
  | 3 => ("OutcropAges$Reader", "place", "I", false)
  | 4 => ("OutcropAges$Reader", "behind", "I", false)
  | 5 => ("OutcropAges$Reader", "kind", "I", false)
  | _ => ("OutcropAges$Reader", "value", "I", false)
def tyX6 : Nat → FieldType := fun k => match k with
  | 0 => .object "OutcropAges$Book"
  | 1 => .array .int
  | 2 => .int
  | 3 => .int
  | 4 => .int
  | 5 => .int
  | _ => .int
abbrev wsX60 : List Cond := u_ws RX6 TX6 7
theorem nmX6 : ∀ a, a < 7 → ∀ b, b < 7 → a ≠ b → (TX6 a).2.1 ≠ (TX6 b).2.1 := by decide +kernel
theorem tyX6_ok : ∀ k, k < 7 → parseFieldDescriptor (TX6 k).2.2.1 = some (tyX6 k) := by decide +kernel
abbrev cX6_init : ByteArray := prog_8_method_1_code
def yX6_init : MethodName := ⟨RX6, "<init>", "([I)V"⟩
abbrev cX6_readText : ByteArray := prog_8_method_2_code
def yX6_readText : MethodName := ⟨RX6, "readText", "(I)I"⟩
abbrev cX6_readItem : ByteArray := prog_8_method_3_code
def yX6_readItem : MethodName := ⟨RX6, "readItem", "(Z)Z"⟩
abbrev cX6_readEvents : ByteArray := prog_8_method_4_code
def yX6_readEvents : MethodName := ⟨RX6, "readEvents", "()Z"⟩
abbrev cX6_readObservation : ByteArray := prog_8_method_5_code
def yX6_readObservation : MethodName := ⟨RX6, "readObservation", "()Z"⟩
abbrev cX6_eventOfToken : ByteArray := prog_8_method_6_code
def yX6_eventOfToken : MethodName := ⟨RX6, "eventOfToken", "()I"⟩
abbrev cX6_setOfToken : ByteArray := prog_8_method_7_code
def yX6_setOfToken : MethodName := ⟨RX6, "setOfToken", "()I"⟩
abbrev cX6_isRow : ByteArray := prog_8_method_8_code
def yX6_isRow : MethodName := ⟨RX6, "isRow", "(Ljava/lang/String;)Z"⟩
abbrev cX6_readToken : ByteArray := prog_8_method_9_code
def yX6_readToken : MethodName := ⟨RX6, "readToken", "()V"⟩
abbrev cX6_kindAt : ByteArray := prog_8_method_10_code
def yX6_kindAt : MethodName := ⟨RX6, "kindAt", "(I)I"⟩
abbrev cX6_readValue : ByteArray := prog_8_method_11_code
def yX6_readValue : MethodName := ⟨RX6, "readValue", "()V"⟩
def RX7 : String := "OutcropAges$Seen"
def TX7 : u_T := fun k => match k with
  | 0 => ("OutcropAges$Seen", "xs", "[I", true)
  | 1 => ("OutcropAges$Seen", "relations", "[I", true)
  | 2 => ("OutcropAges$Seen", "ys", "[I", true)
  | _ => ("OutcropAges$Seen", "size", "I", false)
def tyX7 : Nat → FieldType := fun k => match k with
  | 0 => .array .int
  | 1 => .array .int
  | 2 => .array .int
  | _ => .int
abbrev wsX70 : List Cond := u_ws RX7 TX7 4
theorem nmX7 : ∀ a, a < 4 → ∀ b, b < 4 → a ≠ b → (TX7 a).2.1 ≠ (TX7 b).2.1 := by decide +kernel
theorem tyX7_ok : ∀ k, k < 4 → parseFieldDescriptor (TX7 k).2.2.1 = some (tyX7 k) := by decide +kernel
abbrev cX7_init : ByteArray := prog_9_method_1_code
def yX7_init : MethodName := ⟨RX7, "<init>", "()V"⟩
abbrev cX7_append : ByteArray := prog_9_method_2_code
def yX7_append : MethodName := ⟨RX7, "append", "(III)V"⟩
abbrev cX7_isSoIn : ByteArray := prog_9_method_3_code
def yX7_isSoIn : MethodName := ⟨RX7, "isSoIn", "(LOutcropAges$Line;)Z"⟩
def RX8 : String := "OutcropAges"
def TX8 : u_T := fun k => match k with
  | 0 => ("OutcropAges", "text", "[I", true)
  | 1 => ("OutcropAges", "letters", "I", false)
  | 2 => ("OutcropAges", "reader", "LOutcropAges$Reader;", true)
  | 3 => ("OutcropAges", "book", "LOutcropAges$Book;", true)
  | 4 => ("OutcropAges", "past", "LOutcropAges$Past;", true)
  | 5 => ("OutcropAges", "findings", "LOutcropAges$Findings;", true)
  | 6 => ("OutcropAges", "seen", "LOutcropAges$Seen;", true)
  | 7 => ("OutcropAges", "images", "[LOutcropAges$Book;", true)
  | _ => ("OutcropAges", "kept", "[Z", true)
def tyX8 : Nat → FieldType := fun k => match k with
  | 0 => .array .int
  | 1 => .int
  | 2 => .object "OutcropAges$Reader"
  | 3 => .object "OutcropAges$Book"
  | 4 => .object "OutcropAges$Past"
  | 5 => .object "OutcropAges$Findings"
  | 6 => .object "OutcropAges$Seen"
  | 7 => .array (.object "OutcropAges$Book")
  | _ => .array .boolean
abbrev wsX80 : List Cond := u_ws RX8 TX8 9
theorem nmX8 : ∀ a, a < 9 → ∀ b, b < 9 → a ≠ b → (TX8 a).2.1 ≠ (TX8 b).2.1 := by decide +kernel
theorem tyX8_ok : ∀ k, k < 9 → parseFieldDescriptor (TX8 k).2.2.1 = some (tyX8 k) := by decide +kernel
abbrev cX8_init : ByteArray := prog_1_method_1_code
def yX8_init : MethodName := ⟨RX8, "<init>", "()V"⟩
abbrev cX8_type : ByteArray := prog_1_method_2_code
def yX8_type : MethodName := ⟨RX8, "type", "(I)I"⟩
abbrev cX8_clear : ByteArray := prog_1_method_3_code
def yX8_clear : MethodName := ⟨RX8, "clear", "()I"⟩
abbrev cX8_tells : ByteArray := prog_1_method_4_code
def yX8_tells : MethodName := ⟨RX8, "tells", "()I"⟩
abbrev cX8_observed : ByteArray := prog_1_method_5_code
def yX8_observed : MethodName := ⟨RX8, "observed", "(II)I"⟩
abbrev cX8_adds : ByteArray := prog_1_method_6_code
def yX8_adds : MethodName := ⟨RX8, "adds", "(III)I"⟩
abbrev cX8_takes : ByteArray := prog_1_method_7_code
def yX8_takes : MethodName := ⟨RX8, "takes", "(I)I"⟩
abbrev cX8_turns : ByteArray := prog_1_method_8_code
def yX8_turns : MethodName := ⟨RX8, "turns", "(II)I"⟩
abbrev cX8_undo : ByteArray := prog_1_method_9_code
def yX8_undo : MethodName := ⟨RX8, "undo", "()I"⟩
abbrev cX8_turned : ByteArray := prog_1_method_10_code
def yX8_turned : MethodName := ⟨RX8, "turned", "(I)I"⟩
abbrev cX8_composed : ByteArray := prog_1_method_11_code
def yX8_composed : MethodName := ⟨RX8, "composed", "(II)I"⟩
abbrev cX8_left : ByteArray := prog_1_method_12_code
def yX8_left : MethodName := ⟨RX8, "left", "(III)I"⟩
abbrev cX8_many : ByteArray := prog_1_method_13_code
def yX8_many : MethodName := ⟨RX8, "many", "(I)I"⟩
abbrev cX8_history : ByteArray := prog_1_method_14_code
def yX8_history : MethodName := ⟨RX8, "history", "(III)I"⟩
abbrev cX8_point : ByteArray := prog_1_method_15_code
def yX8_point : MethodName := ⟨RX8, "point", "(II)I"⟩
abbrev cX8_wrong : ByteArray := prog_1_method_16_code
def yX8_wrong : MethodName := ⟨RX8, "wrong", "(I)I"⟩
abbrev cX8_eldest : ByteArray := prog_1_method_17_code
def yX8_eldest : MethodName := ⟨RX8, "eldest", "()I"⟩
abbrev cX8_next : ByteArray := prog_1_method_18_code
def yX8_next : MethodName := ⟨RX8, "next", "()I"⟩
abbrev cX8_sees : ByteArray := prog_1_method_19_code
def yX8_sees : MethodName := ⟨RX8, "sees", "(III)I"⟩
abbrev cX8_forget : ByteArray := prog_1_method_20_code
def yX8_forget : MethodName := ⟨RX8, "forget", "()I"⟩
abbrev cX8_unseen : ByteArray := prog_1_method_21_code
def yX8_unseen : MethodName := ⟨RX8, "unseen", "()I"⟩
abbrev cX8_keep : ByteArray := prog_1_method_22_code
def yX8_keep : MethodName := ⟨RX8, "keep", "(I)I"⟩
abbrev cX8_back : ByteArray := prog_1_method_23_code
def yX8_back : MethodName := ⟨RX8, "back", "(I)I"⟩
abbrev cX8_count : ByteArray := prog_1_method_24_code
def yX8_count : MethodName := ⟨RX8, "count", "(I)I"⟩
abbrev cX8_isRelation : ByteArray := prog_1_method_25_code
def yX8_isRelation : MethodName := ⟨RX8, "isRelation", "(I)Z"⟩
abbrev cX8_isSet : ByteArray := prog_1_method_26_code
def yX8_isSet : MethodName := ⟨RX8, "isSet", "(I)Z"⟩
abbrev cX8_isToldSet : ByteArray := prog_1_method_27_code
def yX8_isToldSet : MethodName := ⟨RX8, "isToldSet", "(I)Z"⟩
abbrev cX8_pairOf : ByteArray := prog_1_method_28_code
def yX8_pairOf : MethodName := ⟨RX8, "pairOf", "(II)I"⟩
abbrev cX8_pairsOf : ByteArray := prog_1_method_29_code
def yX8_pairsOf : MethodName := ⟨RX8, "pairsOf", "(I)I"⟩
def RX9 : String := "OutcropAgesModel"
def TX9 : u_T := fun k => match k with
  | 0 => ("OutcropAgesModel", "s", "[I", true)
  | 1 => ("OutcropAgesModel", "draft", "[I", true)
  | 2 => ("OutcropAgesModel", "past", "[I", true)
  | 3 => ("OutcropAgesModel", "known", "I", false)
  | 4 => ("OutcropAgesModel", "kept", "[I", true)
  | 5 => ("OutcropAgesModel", "isKept", "[Z", true)
  | 6 => ("OutcropAgesModel", "events", "I", false)
  | 7 => ("OutcropAgesModel", "seenX", "[I", true)
  | 8 => ("OutcropAgesModel", "seenR", "[I", true)
  | 9 => ("OutcropAgesModel", "seenY", "[I", true)
  | 10 => ("OutcropAgesModel", "seen", "I", false)
  | 11 => ("OutcropAgesModel", "begins", "[I", true)
  | 12 => ("OutcropAgesModel", "ends", "[I", true)
  | 13 => ("OutcropAgesModel", "table", "[I", true)
  | 14 => ("OutcropAgesModel", "may", "[I", true)
  | 15 => ("OutcropAgesModel", "tried", "[I", true)
  | 16 => ("OutcropAgesModel", "closed", "[I", true)
  | 17 => ("OutcropAgesModel", "really", "[I", true)
  | 18 => ("OutcropAgesModel", "isLaid", "Z", false)
  | 19 => ("OutcropAgesModel", "isThere", "Z", false)
  | 20 => ("OutcropAgesModel", "first", "[I", true)
  | 21 => ("OutcropAgesModel", "text", "[I", true)
  | 22 => ("OutcropAgesModel", "typed", "I", false)
  | 23 => ("OutcropAgesModel", "kind", "[I", true)
  | 24 => ("OutcropAgesModel", "place", "[I", true)
  | 25 => ("OutcropAgesModel", "size", "[I", true)
  | 26 => ("OutcropAgesModel", "value", "[I", true)
  | 27 => ("OutcropAgesModel", "tokens", "I", false)
  | 28 => ("OutcropAgesModel", "at", "I", false)
  | _ => ("OutcropAgesModel", "told", "I", false)
def tyX9 : Nat → FieldType := fun k => match k with
  | 0 => .array .int
  | 1 => .array .int
  | 2 => .array .int
  | 3 => .int
  | 4 => .array .int
  | 5 => .array .boolean
  | 6 => .int
  | 7 => .array .int
  | 8 => .array .int
  | 9 => .array .int
  | 10 => .int
  | 11 => .array .int
  | 12 => .array .int
  | 13 => .array .int
  | 14 => .array .int
  | 15 => .array .int
  | 16 => .array .int
  | 17 => .array .int
  | 18 => .boolean
  | 19 => .boolean
  | 20 => .array .int
  | 21 => .array .int
  | 22 => .int
  | 23 => .array .int
  | 24 => .array .int
  | 25 => .array .int
  | 26 => .array .int
  | 27 => .int
  | 28 => .int
  | _ => .int
abbrev wsX90 : List Cond := u_ws RX9 TX9 30
theorem nmX9 : ∀ a, a < 30 → ∀ b, b < 30 → a ≠ b → (TX9 a).2.1 ≠ (TX9 b).2.1 := by decide +kernel
theorem tyX9_ok : ∀ k, k < 30 → parseFieldDescriptor (TX9 k).2.2.1 = some (tyX9 k) := by decide +kernel
abbrev cX9_init : ByteArray := prog_11_method_1_code
def yX9_init : MethodName := ⟨RX9, "<init>", "()V"⟩
abbrev cX9_in : ByteArray := prog_11_method_2_code
def yX9_in : MethodName := ⟨RX9, "in", "(III)Z"⟩
abbrev cX9_beginOf : ByteArray := prog_11_method_3_code
def yX9_beginOf : MethodName := ⟨RX9, "beginOf", "(I)I"⟩
abbrev cX9_endOf : ByteArray := prog_11_method_4_code
def yX9_endOf : MethodName := ⟨RX9, "endOf", "(I)I"⟩
abbrev cX9_laid : ByteArray := prog_11_method_5_code
def yX9_laid : MethodName := ⟨RX9, "laid", "(III)I"⟩
abbrev cX9_relationOf : ByteArray := prog_11_method_6_code
def yX9_relationOf : MethodName := ⟨RX9, "relationOf", "(II)I"⟩
abbrev cX9_turnedSet : ByteArray := prog_11_method_7_code
def yX9_turnedSet : MethodName := ⟨RX9, "turnedSet", "(I)I"⟩
abbrev cX9_composedOf : ByteArray := prog_11_method_8_code
def yX9_composedOf : MethodName := ⟨RX9, "composedOf", "(II)I"⟩
abbrev cX9_turned : ByteArray := prog_11_method_9_code
def yX9_turned : MethodName := ⟨RX9, "turned", "(I)I"⟩
abbrev cX9_composed : ByteArray := prog_11_method_10_code
def yX9_composed : MethodName := ⟨RX9, "composed", "(II)I"⟩
abbrev cX9_x : ByteArray := prog_11_method_11_code
def yX9_x : MethodName := ⟨RX9, "x", "(I)I"⟩
abbrev cX9_set : ByteArray := prog_11_method_12_code
def yX9_set : MethodName := ⟨RX9, "set", "(I)I"⟩
abbrev cX9_y : ByteArray := prog_11_method_13_code
def yX9_y : MethodName := ⟨RX9, "y", "(I)I"⟩
abbrev cX9_toldOf : ByteArray := prog_11_method_14_code
def yX9_toldOf : MethodName := ⟨RX9, "toldOf", "(III)I"⟩
abbrev cX9_pairs : ByteArray := prog_11_method_15_code
def yX9_pairs : MethodName := ⟨RX9, "pairs", "()I"⟩
abbrev cX9_pairOf : ByteArray := prog_11_method_16_code
def yX9_pairOf : MethodName := ⟨RX9, "pairOf", "(II)I"⟩
abbrev cX9_highOf : ByteArray := prog_11_method_17_code
def yX9_highOf : MethodName := ⟨RX9, "highOf", "(I)I"⟩
abbrev cX9_lowOf : ByteArray := prog_11_method_18_code
def yX9_lowOf : MethodName := ⟨RX9, "lowOf", "(I)I"⟩
abbrev cX9_lets : ByteArray := prog_11_method_19_code
def yX9_lets : MethodName := ⟨RX9, "lets", "(I)V"⟩
abbrev cX9_agrees : ByteArray := prog_11_method_20_code
def yX9_agrees : MethodName := ⟨RX9, "agrees", "(I)Z"⟩
abbrev cX9_isNext : ByteArray := prog_11_method_21_code
def yX9_isNext : MethodName := ⟨RX9, "isNext", "(Z)Z"⟩
abbrev cX9_triedOf : ByteArray := prog_11_method_22_code
def yX9_triedOf : MethodName := ⟨RX9, "triedOf", "(II)I"⟩
abbrev cX9_isWithout : ByteArray := prog_11_method_23_code
def yX9_isWithout : MethodName := ⟨RX9, "isWithout", "(I)Z"⟩
abbrev cX9_lays : ByteArray := prog_11_method_24_code
def yX9_lays : MethodName := ⟨RX9, "lays", "()V"⟩
abbrev cX9_closes : ByteArray := prog_11_method_25_code
def yX9_closes : MethodName := ⟨RX9, "closes", "()V"⟩
abbrev cX9_isEvent : ByteArray := prog_11_method_26_code
def yX9_isEvent : MethodName := ⟨RX9, "isEvent", "(I)Z"⟩
abbrev cX9_areTwo : ByteArray := prog_11_method_27_code
def yX9_areTwo : MethodName := ⟨RX9, "areTwo", "(II)Z"⟩
abbrev cX9_reallyOf : ByteArray := prog_11_method_28_code
def yX9_reallyOf : MethodName := ⟨RX9, "reallyOf", "(II)I"⟩
abbrev cX9_left : ByteArray := prog_11_method_29_code
def yX9_left : MethodName := ⟨RX9, "left", "(III)I"⟩
abbrev cX9_many : ByteArray := prog_11_method_30_code
def yX9_many : MethodName := ⟨RX9, "many", "(I)I"⟩
abbrev cX9_history : ByteArray := prog_11_method_31_code
def yX9_history : MethodName := ⟨RX9, "history", "(III)I"⟩
abbrev cX9_farOf : ByteArray := prog_11_method_32_code
def yX9_farOf : MethodName := ⟨RX9, "farOf", "(II)I"⟩
abbrev cX9_timesAhead : ByteArray := prog_11_method_33_code
def yX9_timesAhead : MethodName := ⟨RX9, "timesAhead", "(I)I"⟩
abbrev cX9_point : ByteArray := prog_11_method_34_code
def yX9_point : MethodName := ⟨RX9, "point", "(II)I"⟩
abbrev cX9_quarrel : ByteArray := prog_11_method_35_code
def yX9_quarrel : MethodName := ⟨RX9, "quarrel", "()I"⟩
abbrev cX9_blame : ByteArray := prog_11_method_36_code
def yX9_blame : MethodName := ⟨RX9, "blame", "()I"⟩
abbrev cX9_wrong : ByteArray := prog_11_method_37_code
def yX9_wrong : MethodName := ⟨RX9, "wrong", "(I)I"⟩
abbrev cX9_eldest : ByteArray := prog_11_method_38_code
def yX9_eldest : MethodName := ⟨RX9, "eldest", "()I"⟩
abbrev cX9_bits : ByteArray := prog_11_method_39_code
def yX9_bits : MethodName := ⟨RX9, "bits", "(I)I"⟩
abbrev cX9_next : ByteArray := prog_11_method_40_code
def yX9_next : MethodName := ⟨RX9, "next", "()I"⟩
abbrev cX9_sees : ByteArray := prog_11_method_41_code
def yX9_sees : MethodName := ⟨RX9, "sees", "(III)I"⟩
abbrev cX9_forget : ByteArray := prog_11_method_42_code
def yX9_forget : MethodName := ⟨RX9, "forget", "()I"⟩
abbrev cX9_unseen : ByteArray := prog_11_method_43_code
def yX9_unseen : MethodName := ⟨RX9, "unseen", "()I"⟩
abbrev cX9_deed : ByteArray := prog_11_method_44_code
def yX9_deed : MethodName := ⟨RX9, "deed", "()V"⟩
abbrev cX9_isObservation : ByteArray := prog_11_method_45_code
def yX9_isObservation : MethodName := ⟨RX9, "isObservation", "(I)Z"⟩
abbrev cX9_observed : ByteArray := prog_11_method_46_code
def yX9_observed : MethodName := ⟨RX9, "observed", "(II)I"⟩
abbrev cX9_adds : ByteArray := prog_11_method_47_code
def yX9_adds : MethodName := ⟨RX9, "adds", "(III)I"⟩
abbrev cX9_takes : ByteArray := prog_11_method_48_code
def yX9_takes : MethodName := ⟨RX9, "takes", "(I)I"⟩
abbrev cX9_turns : ByteArray := prog_11_method_49_code
def yX9_turns : MethodName := ⟨RX9, "turns", "(II)I"⟩
abbrev cX9_undo : ByteArray := prog_11_method_50_code
def yX9_undo : MethodName := ⟨RX9, "undo", "()I"⟩
abbrev cX9_keep : ByteArray := prog_11_method_51_code
def yX9_keep : MethodName := ⟨RX9, "keep", "(I)I"⟩
abbrev cX9_back : ByteArray := prog_11_method_52_code
def yX9_back : MethodName := ⟨RX9, "back", "(I)I"⟩
abbrev cX9_type : ByteArray := prog_11_method_53_code
def yX9_type : MethodName := ⟨RX9, "type", "(I)I"⟩
abbrev cX9_clear : ByteArray := prog_11_method_54_code
def yX9_clear : MethodName := ⟨RX9, "clear", "()I"⟩
abbrev cX9_row : ByteArray := prog_11_method_55_code
def yX9_row : MethodName := ⟨RX9, "row", "(III)I"⟩
abbrev cX9_split : ByteArray := prog_11_method_56_code
def yX9_split : MethodName := ⟨RX9, "split", "()V"⟩
abbrev cX9_isKind : ByteArray := prog_11_method_57_code
def yX9_isKind : MethodName := ⟨RX9, "isKind", "(I)Z"⟩
abbrev cX9_letterAt : ByteArray := prog_11_method_58_code
def yX9_letterAt : MethodName := ⟨RX9, "letterAt", "(I)I"⟩
abbrev cX9_isWord : ByteArray := prog_11_method_59_code
def yX9_isWord : MethodName := ⟨RX9, "isWord", "(J)Z"⟩
abbrev cX9_setTold : ByteArray := prog_11_method_60_code
def yX9_setTold : MethodName := ⟨RX9, "setTold", "()I"⟩
abbrev cX9_takesEvent : ByteArray := prog_11_method_61_code
def yX9_takesEvent : MethodName := ⟨RX9, "takesEvent", "(II)Z"⟩
abbrev cX9_item : ByteArray := prog_11_method_62_code
def yX9_item : MethodName := ⟨RX9, "item", "(I)Z"⟩
abbrev cX9_manyTold : ByteArray := prog_11_method_63_code
def yX9_manyTold : MethodName := ⟨RX9, "manyTold", "()I"⟩
abbrev cX9_tells : ByteArray := prog_11_method_64_code
def yX9_tells : MethodName := ⟨RX9, "tells", "()I"⟩
abbrev cX9_count : ByteArray := prog_11_method_65_code
def yX9_count : MethodName := ⟨RX9, "count", "(I)I"⟩
def RJ6 : String := "java/lang/Integer"
def TJ6 : u_T := fun k => match k with
  | _ => ("", "", "", false)
def tyJ6 : Nat → FieldType := fun k => match k with
  | _ => .int
abbrev wsJ60 : List Cond := u_ws RJ6 TJ6 0
theorem nmJ6 : ∀ a, a < 0 → ∀ b, b < 0 → a ≠ b → (TJ6 a).2.1 ≠ (TJ6 b).2.1 := by decide +kernel
theorem tyJ6_ok : ∀ k, k < 0 → parseFieldDescriptor (TJ6 k).2.2.1 = some (tyJ6 k) := by decide +kernel
abbrev cJ6_bitCount_0f7a4 : ByteArray := prog_12_method_49_code
def yJ6_bitCount_0f7a4 : MethodName := ⟨RJ6, "bitCount", "(I)I"⟩
def RJ9 : String := "java/lang/Math"
def TJ9 : u_T := fun k => match k with
  | _ => ("", "", "", false)
def tyJ9 : Nat → FieldType := fun k => match k with
  | _ => .int
abbrev wsJ90 : List Cond := u_ws RJ9 TJ9 0
theorem nmJ9 : ∀ a, a < 0 → ∀ b, b < 0 → a ≠ b → (TJ9 a).2.1 ≠ (TJ9 b).2.1 := by decide +kernel
theorem tyJ9_ok : ∀ k, k < 0 → parseFieldDescriptor (TJ9 k).2.2.1 = some (tyJ9 k) := by decide +kernel
abbrev cJ9_max_7cf53 : ByteArray := prog_13_method_65_code
def yJ9_max_7cf53 : MethodName := ⟨RJ9, "max", "(II)I"⟩
abbrev cJ9_min_7cf53 : ByteArray := prog_13_method_69_code
def yJ9_min_7cf53 : MethodName := ⟨RJ9, "min", "(II)I"⟩
def RJ0 : String := "java/lang/String"
def TJ0 : u_T := fun k => match k with
  | _ => ("", "", "", false)
def tyJ0 : Nat → FieldType := fun k => match k with
  | _ => .int
abbrev wsJ00 : List Cond := u_ws RJ0 TJ0 0
theorem nmJ0 : ∀ a, a < 0 → ∀ b, b < 0 → a ≠ b → (TJ0 a).2.1 ≠ (TJ0 b).2.1 := by decide +kernel
theorem tyJ0_ok : ∀ k, k < 0 → parseFieldDescriptor (TJ0 k).2.2.1 = some (tyJ0 k) := by decide +kernel
abbrev cJ0_length_8abf5 : ByteArray := prog_14_method_54_code
def yJ0_length_8abf5 : MethodName := ⟨RJ0, "length", "()I"⟩
abbrev cJ0_charAt_5068e : ByteArray := prog_14_method_56_code
def yJ0_charAt_5068e : MethodName := ⟨RJ0, "charAt", "(I)C"⟩
abbrev cJ0_coder_7d493 : ByteArray := prog_14_method_152_code
def yJ0_coder_7d493 : MethodName := ⟨RJ0, "coder", "()B"⟩
abbrev cJ0_isLatin1_aae02 : ByteArray := prog_14_method_154_code
def yJ0_isLatin1_aae02 : MethodName := ⟨RJ0, "isLatin1", "()Z"⟩
abbrev cJ0_checkIndex_df160 : ByteArray := prog_14_method_155_code
def yJ0_checkIndex_df160 : MethodName := ⟨RJ0, "checkIndex", "(II)V"⟩
def RJ1 : String := "java/lang/StringLatin1"
def TJ1 : u_T := fun k => match k with
  | _ => ("", "", "", false)
def tyJ1 : Nat → FieldType := fun k => match k with
  | _ => .int
abbrev wsJ10 : List Cond := u_ws RJ1 TJ1 0
theorem nmJ1 : ∀ a, a < 0 → ∀ b, b < 0 → a ≠ b → (TJ1 a).2.1 ≠ (TJ1 b).2.1 := by decide +kernel
theorem tyJ1_ok : ∀ k, k < 0 → parseFieldDescriptor (TJ1 k).2.2.1 = some (tyJ1 k) := by decide +kernel
abbrev cJ1_charAt_3b067 : ByteArray := prog_15_method_2_code
def yJ1_charAt_3b067 : MethodName := ⟨RJ1, "charAt", "([BI)C"⟩
def RJ2 : String := "java/lang/StringUTF16"
def TJ2 : u_T := fun k => match k with
  | _ => ("", "", "", false)
def tyJ2 : Nat → FieldType := fun k => match k with
  | _ => .int
abbrev wsJ20 : List Cond := u_ws RJ2 TJ2 0
theorem nmJ2 : ∀ a, a < 0 → ∀ b, b < 0 → a ≠ b → (TJ2 a).2.1 ≠ (TJ2 b).2.1 := by decide +kernel
theorem tyJ2_ok : ∀ k, k < 0 → parseFieldDescriptor (TJ2 k).2.2.1 = some (tyJ2 k) := by decide +kernel
abbrev cJ2_getChar_3b067 : ByteArray := prog_16_method_5_code
def yJ2_getChar_3b067 : MethodName := ⟨RJ2, "getChar", "([BI)C"⟩
abbrev cJ2_length_9d52b : ByteArray := prog_16_method_6_code
def yJ2_length_9d52b : MethodName := ⟨RJ2, "length", "([B)I"⟩
abbrev cJ2_charAt_3b067 : ByteArray := prog_16_method_83_code
def yJ2_charAt_3b067 : MethodName := ⟨RJ2, "charAt", "([BI)C"⟩
abbrev cJ2_checkIndex_2214a : ByteArray := prog_16_method_91_code
def yJ2_checkIndex_2214a : MethodName := ⟨RJ2, "checkIndex", "(I[B)V"⟩
def RJ10 : String := "java/lang/System"
def TJ10 : u_T := fun k => match k with
  | _ => ("", "", "", false)
def tyJ10 : Nat → FieldType := fun k => match k with
  | _ => .int
abbrev wsJ100 : List Cond := u_ws RJ10 TJ10 0
theorem nmJ10 : ∀ a, a < 0 → ∀ b, b < 0 → a ≠ b → (TJ10 a).2.1 ≠ (TJ10 b).2.1 := by decide +kernel
theorem tyJ10_ok : ∀ k, k < 0 → parseFieldDescriptor (TJ10 k).2.2.1 = some (tyJ10 k) := by decide +kernel
def RJ3 : String := "jdk/internal/util/Preconditions"
def TJ3 : u_T := fun k => match k with
  | _ => ("", "", "", false)
def tyJ3 : Nat → FieldType := fun k => match k with
  | _ => .int
abbrev wsJ30 : List Cond := u_ws RJ3 TJ3 0
theorem nmJ3 : ∀ a, a < 0 → ∀ b, b < 0 → a ≠ b → (TJ3 a).2.1 ≠ (TJ3 b).2.1 := by decide +kernel
theorem tyJ3_ok : ∀ k, k < 0 → parseFieldDescriptor (TJ3 k).2.2.1 = some (tyJ3 k) := by decide +kernel
abbrev cJ3_checkIndex_8e157 : ByteArray := prog_18_method_11_code
def yJ3_checkIndex_8e157 : MethodName := ⟨RJ3, "checkIndex", "(IILjava/util/function/BiFunction;)I"⟩
def RL : String := "OutcropAgesLaw"
abbrev cL_law : ByteArray := code
def yL_law : MethodName := ⟨RL, "law", "([I)Z"⟩
abbrev vwCl : List vw_C := [(RX0, TX0, 2), (RX1, TX1, 5), (RX2, TX2, 10), (RX3, TX3, 10), (RX4, TX4, 4), (RX5, TX5, 2), (RX6, TX6, 7), (RX7, TX7, 4), (RX8, TX8, 9), (RX9, TX9, 30)]
end
section
/-! THE ABSTRACT MACHINE: values whose references are (tag, number), a store by tag, number and place; what each tag is. -/
abbrev AV : Type := Int32 ⊕ Int64 ⊕ Option (Nat × Nat)
abbrev vi (x : Int32) : AV := Sum.inl x
abbrev vl (x : Int64) : AV := Sum.inr (Sum.inl x)
abbrev vr (t k : Nat) : AV := Sum.inr (Sum.inr (some (t, k)))
abbrev vnul : AV := Sum.inr (Sum.inr none)
def avc : AV → Nat
  | .inl _ => 1
  | .inr (.inl _) => 2
  | .inr (.inr _) => 1
abbrev SI : Type := Nat → Nat → Nat → Int32
abbrev SJ : Type := Nat → Nat → Int64
abbrev SA : Type := Nat → Nat → Nat → Bool
abbrev ST : Type := SI × SJ × Nat × SA
def uI (I : SI) (t k j : Nat) (x : Int32) : SI := fun a b c => if a = t ∧ b = k ∧ c = j then x else I a b c
def uJ (J : SJ) (k j : Nat) (x : Int64) : SJ := fun b c => if b = k ∧ c = j then x else J b c
def uA (A : SA) (t k j : Nat) : SA := fun a b c => if a = t ∧ b = k ∧ c = j then true else A a b c
def zI (I : SI) (t k : Nat) : SI := fun a b c => if a = t ∧ b = k then 0 else I a b c
def zJ (J : SJ) (k : Nat) : SJ := fun b c => if b = k then 0 else J b c
def zA (A : SA) (t k : Nat) : SA := fun a b c => if a = t ∧ b = k then false else A a b c
def cI (I : SI) (t k t1 k1 sp dp n : Nat) : SI := fun a b c => if a = t1 ∧ b = k1 then va_cpy (I t k) (I t1 k1) sp dp n c else I a b c
/-- five rows of a line at once -/
def z5 (I : SI) (k : Nat) : SI := fun a b c => if a = 10 ∧ 5 * k ≤ b ∧ b < 5 * k + 5 then 0 else I a b c
def aT : SA := fun _ _ _ => true
def nthD {α : Type} : List α → Nat → α → α
  | [], _, d => d
  | a :: _, 0, _ => a
  | _ :: l, n + 1, d => nthD l n d
def alook {α : Type} : List (Nat × α) → Nat → Option α
  | [], _ => none
  | (i, a) :: l, n => match Nat.beq i n with
    | true => some a
    | false => alook l n
/-- what a tag is: 0 an object (of class number ..), 1 ints, 2 booleans, 3 longs, 4 books fixed, 5 books that change, 6 rows -/
def tinfo : List (Nat × Nat) := [(0, 0), (1, 1792), (1, 896), (0, 1), (1, 8), (1, 8), (1, 8), (0, 2), (0, 3), (6, 5), (1, 25), (1, 5), (1, 5), (1, 10), (3, 0), (1, 10), (0, 4), (1, 25), (0, 5), (5, 8), (0, 6), (0, 7), (1, 6), (1, 6), (1, 6), (0, 8), (1, 160), (4, 2), (2, 2), (0, 9),
  (1, 25), (1, 25), (1, 200), (1, 50), (2, 2), (1, 6), (1, 6), (1, 6), (1, 13), (1, 13), (1, 169), (1, 10), (1, 10), (1, 25), (1, 10), (1, 10), (1, 160), (1, 160), (1, 160), (1, 160), (1, 160)]
/-- a class's fields: 0 int, 1 boolean, 2 a reference to (tag, number by code: 0 the same, 1 twice and one, n + 2: n) -/
def ftab : List (List (Nat × Nat × Nat)) := [
  [(2, 1, 0), (2, 2, 0)],
  [(2, 4, 0), (2, 5, 0), (2, 6, 0), (0, 0, 0), (0, 0, 0)],
  [(2, 3, 3), (2, 0, 2), (2, 16, 2), (2, 16, 3), (2, 16, 4), (2, 8, 2), (2, 16, 5), (2, 8, 3), (1, 0, 0), (1, 0, 0)],
  [(2, 16, 1), (2, 9, 0), (2, 11, 0), (2, 12, 0), (2, 13, 0), (2, 14, 0), (0, 0, 0), (0, 0, 0), (1, 0, 0), (2, 15, 0)],
  [(2, 0, 2), (2, 17, 0), (0, 0, 0), (1, 0, 0)],
  [(2, 19, 0), (0, 0, 0)],
  [(2, 3, 2), (2, 26, 2), (0, 0, 0), (0, 0, 0), (0, 0, 0), (0, 0, 0), (0, 0, 0)],
  [(2, 22, 0), (2, 23, 0), (2, 24, 0), (0, 0, 0)],
  [(2, 26, 0), (0, 0, 0), (2, 20, 0), (2, 3, 3), (2, 18, 0), (2, 7, 0), (2, 21, 0), (2, 27, 0), (2, 28, 0)],
  [(2, 30, 0), (2, 31, 0), (2, 32, 0), (0, 0, 0), (2, 33, 0), (2, 34, 0), (0, 0, 0), (2, 35, 0), (2, 36, 0), (2, 37, 0), (0, 0, 0), (2, 38, 0), (2, 39, 0), (2, 40, 0), (2, 41, 0), (2, 42, 0), (2, 43, 0), (2, 44, 0), (1, 0, 0), (1, 0, 0), (2, 45, 0), (2, 46, 0), (0, 0, 0), (2, 47, 0), (2, 48, 0), (2, 49, 0), (2, 50, 0), (0, 0, 0), (0, 0, 0), (0, 0, 0)]]
/-- the order in which the law's objects are made -/
def allIds : List (Nat × Nat) := [(25, 0), (26, 0), (20, 0), (3, 0), (4, 0), (5, 0), (6, 0), (3, 1), (4, 1), (5, 1), (6, 1), (18, 0), (19, 0),
  (3, 2), (4, 2), (5, 2), (6, 2), (3, 3), (4, 3), (5, 3), (6, 3), (3, 4), (4, 4), (5, 4), (6, 4), (3, 5), (4, 5), (5, 5), (6, 5), (3, 6), (4, 6), (5, 6), (6, 6), (3, 7), (4, 7), (5, 7), (6, 7), (3, 8), (4, 8), (5, 8), (6, 8), (3, 9), (4, 9), (5, 9), (6, 9),
  (7, 0), (0, 0), (1, 0), (2, 0), (16, 0), (17, 0), (16, 1), (17, 1), (16, 2), (17, 2), (8, 0), (9, 0), (10, 0), (10, 1), (10, 2), (10, 3), (10, 4), (11, 0), (12, 0), (13, 0), (15, 0), (14, 0), (16, 3), (17, 3), (8, 1), (9, 1), (10, 5), (10, 6), (10, 7), (10, 8), (10, 9), (11, 1), (12, 1), (13, 1), (15, 1), (14, 1),
  (21, 0), (22, 0), (23, 0), (24, 0), (27, 0), (3, 10), (4, 10), (5, 10), (6, 10), (3, 11), (4, 11), (5, 11), (6, 11), (28, 0),
  (29, 0), (30, 0), (31, 0), (32, 0), (33, 0), (34, 0), (35, 0), (36, 0), (37, 0), (38, 0), (39, 0), (40, 0), (41, 0), (42, 0), (43, 0), (44, 0), (45, 0), (46, 0), (47, 0), (48, 0), (49, 0), (50, 0)]
abbrev NN : Nat := 117
theorem allIds_len : allIds.length = 117 := by decide +kernel
def off (t k : Nat) : Nat := allIds.idxOf (t, k)
theorem off_at : ∀ o, o < 117 → off (nthD allIds o (99, 0)).1 (nthD allIds o (99, 0)).2 = o := by decide +kernel
theorem nthD_get {α : Type} : ∀ (l : List α) (n : Nat) (d : α), n < l.length → l[n]? = some (nthD l n d)
  | [], n, d, h => by simp at h
  | a :: l, 0, d, _ => by simp [nthD]
  | a :: l, n + 1, d, h => by simpa [nthD] using nthD_get l n d (by simpa using h)
theorem nthD_none {α : Type} : ∀ (l : List α) (n : Nat) (d : α), l.length ≤ n → nthD l n d = d
  | [], _, _, _ => rfl
  | a :: l, 0, d, h => by simp at h
  | a :: l, n + 1, d, h => nthD_none l n d (by simpa using h)
/-- how long an array is -/
def tlen (t k : Nat) : Nat := match t with
  | 14 => (match k with | 0 => 300 | _ => 1)
  | _ => (nthD tinfo t (99, 0)).2
def szOf (q : Nat × Nat) : Nat := match nthD tinfo q.1 (99, 0) with
  | (0, ci) => (nthD ftab ci []).length
  | (_, _) => tlen q.1 q.2
def sz : Nat → Nat
  | 0 => 0
  | n + 1 => sz n + szOf (nthD allIds n (99, 0))
theorem sz_mono {a b : Nat} (h : a ≤ b) : sz a ≤ sz b := by
  induction h with
  | refl => exact Nat.le_refl _
  | step _ ih => exact Nat.le_trans ih (Nat.le_add_right _ _)
theorem sz_all : sz 117 ≤ 10000 := by decide +kernel
/-- static things: 60 .. 64 the tables, 65 the script, 66 the texts, 67 their bytes -/
def ctab : List (List Int32) := [[0, 0, 1, 0, 1, 2, 0, 1, 2, 3], [1, 2, 2, 3, 3, 3, 4, 4, 4, 4], [4, 3, 2, 1, 0, 0, 1, 2, 2, 1, 0, 0, 0], [4, 4, 4, 4, 4, 3, 3, 3, 2, 2, 2, 1, 0],
  [1, 1, 1, 1, 31, 31, 1, 1, 1, 1, 31, 31, 8191, 1, 1, 1, 2, 28, 28, 2, 1, 1, 2, 28, 224, 7936, 1, 1, 7, 4, 28, 28, 4, 7, 391, 388, 2044, 1792, 7936, 1, 1, 7, 8, 16, 16, 8, 7, 391, 584, 1072, 2048, 4096,
  1, 1, 31, 16, 16, 16, 16, 31, 8191, 7216, 7216, 4096, 4096, 1, 2, 28, 16, 16, 32, 32, 224, 7936, 7168, 7168, 4096, 4096, 1, 2, 4, 8, 16, 32, 64, 128, 256, 512, 1024, 2048, 4096, 1, 2, 4, 4, 28, 224, 128, 128, 256, 256, 1792, 1792, 7936,
  391, 388, 388, 388, 2044, 1792, 256, 256, 256, 256, 1792, 1792, 7936, 391, 388, 388, 584, 1072, 1024, 512, 256, 256, 512, 1024, 2048, 4096, 391, 388, 2044, 1072, 1072, 1024, 1024, 1792, 7936, 7168, 7168, 4096, 4096,
  391, 584, 1072, 1072, 1072, 2048, 2048, 2048, 4096, 4096, 4096, 4096, 4096, 8191, 7216, 7216, 7216, 7216, 4096, 4096, 4096, 4096, 4096, 4096, 4096, 4096]]
def clen : List Nat := [10, 10, 13, 13, 169]
/-- a text's letters -/
def stxt : List (List Int32) := [[101, 118, 101, 110, 116, 115], [98, 101, 102, 111, 114, 101], [99, 111, 118, 101, 114, 115], [99, 117, 116, 115], [111, 117, 116, 108, 97, 115, 116, 115], [119, 105, 116, 104, 105, 110], [119, 105, 116, 104], [116, 111, 117, 99, 104, 101, 115], [115, 97, 109, 101]]
def slen : List Nat := [6, 6, 6, 4, 8, 6, 4, 7, 4]
/-- a launch, the law's first address, addresses of static things, classes and slots, array classes, the script -/
abbrev EV : Type := Launch × Nat × (Nat → Nat → Nat) × va_G × (Nat → ClassId) × Nat × (Nat → Int32)
abbrev eL (E : EV) : Launch := E.1
abbrev eB (E : EV) : Nat := E.2.1
abbrev eS (E : EV) : Nat → Nat → Nat := E.2.2.1
abbrev eD (E : EV) : va_G := E.2.2.2.1
abbrev eC (E : EV) : Nat → ClassId := E.2.2.2.2.1
abbrev eN (E : EV) : Nat := E.2.2.2.2.2.1
abbrev eX (E : EV) : Nat → Int32 := E.2.2.2.2.2.2
/-- what the law's own cells are -/
abbrev eA (E : EV) : Nat → Prop := fun q => eB E ≤ q
def adr (E : EV) (t k : Nat) : Nat := if t < 60 then eB E + off t k else eS E t k
def conc (E : EV) : AV → Value
  | .inl x => .int x
  | .inr (.inl x) => .long x
  | .inr (.inr none) => .null
  | .inr (.inr (some (t, k))) => .ref (adr E t k)
def vld0 (n t k : Nat) : Prop := ∃ o, o < n ∧ n ≤ 117 ∧ nthD allIds o (99, 0) = (t, k)
def vldS (t k : Nat) : Prop := (60 ≤ t ∧ t ≤ 65 ∧ k = 0) ∨ (66 ≤ t ∧ t ≤ 67 ∧ k < 9)
def vld (n t k : Nat) : Prop := vld0 n t k ∨ vldS t k
def vok (n : Nat) : AV → Prop
  | .inr (.inr (some (t, k))) => vld n t k
  | _ => True
def rtg (c k : Nat) : Nat := match c with
  | 0 => k
  | 1 => 2 * k + 1
  | n + 2 => n
def fval (E : EV) (ci t k : Nat) (I : SI) (A : SA) (j : Nat) : Value := match nthD (nthD ftab ci []) j (0, 0, 0) with
  | (2, t1, c) => if A t k j = true then .ref (adr E t1 (rtg c k)) else .null
  | _ => .int (I t k j)
def cellE (E : EV) (t k : Nat) (I : SI) (J : SJ) (A : SA) : va_E := match nthD tinfo t (99, 0) with
  | (0, ci) => .inr (ci, (List.range (nthD ftab ci []).length).map (fval E ci t k I A))
  | (1, n) => .inl (eC E 0, n, .inl (I t k))
  | (2, n) => .inl (eC E 1, n, .inl (I t k))
  | (3, _) => .inl (eC E 2, tlen t k, .inr (.inl (J k)))
  | (4, n) => .inl (eC E 3, n, .inr (.inr (.inr (.inr (fun j => if A t k j = true then some (adr E 3 (10 + j)) else none)))))
  | (5, n) => .inl (eC E 3, n, .inr (.inr (.inr (.inr (fun j => if A t k j = true then some (adr E 3 (I t k j).toNatClampNeg) else none)))))
  | (6, n) => .inl (eC E 4, n, .inr (.inr (.inr (.inr (fun j => if j < n then some (adr E 10 (5 * k + j)) else none)))))
  | _ => .inl (eC E 0, 0, .inl (fun _ => 0))
def cellAt (E : EV) (o : Nat) (I : SI) (J : SJ) (A : SA) : va_E := cellE E (nthD allIds o (99, 0)).1 (nthD allIds o (99, 0)).2 I J A
def wsO (E : EV) : ST → va_W
  | (I, J, n, A) => (List.range n).map (fun o => (eB E + o, cellAt E o I J A))
def Rep (E : EV) (H : Heap) : ST → Prop
  | (I, J, n, A) => va_P (eD E) vwCl (wsO E (I, J, n, A)) H ∧ (n < 117 → H.size = eB E + n) ∧ n ≤ 117
theorem wsO_get {E : EV} {I : SI} {J : SJ} {n : Nat} {A : SA} {o : Nat} (h : o < n) : (wsO E (I, J, n, A))[o]? = some (eB E + o, cellAt E o I J A) := by
  simp [wsO, h]
theorem wsO_len {E : EV} {I : SI} {J : SJ} {n : Nat} {A : SA} : (wsO E (I, J, n, A)).length = n := by simp [wsO]
theorem wsO_D {E : EV} {I : SI} {J : SJ} {n : Nat} {A : SA} : va_D (eA E) (wsO E (I, J, n, A)) := by
  have key : ∀ (i : Nat) (q : Nat × va_E), (wsO E (I, J, n, A))[i]? = some q → q.1 = eB E + i := by
    intro i q h
    have hi : i < n := by
      have := (List.getElem?_eq_some_iff.mp h).1
      rwa [wsO_len] at this
    rw [wsO_get hi] at h
    cases h
    rfl
  refine ⟨fun i j x y hi hj hxy => ?_, fun k q h => ?_⟩
  · have h1 := key i x hi
    have h2 := key j y hj
    omega
  · have h1 := key k q h
    show eB E ≤ q.1
    omega
/-- the place of a thing -/
theorem vld0_at {n t k : Nat} (h : vld0 n t k) : off t k < n ∧ nthD allIds (off t k) (99, 0) = (t, k) ∧ t < 60 := by
  obtain ⟨o, h1, h2, h3⟩ := h
  have h4 := off_at o (by omega)
  rw [h3] at h4
  have h5 : ∀ o, o < 117 → (nthD allIds o (99, 0)).1 < 60 := by decide +kernel
  have h6 := h5 o (by omega)
  rw [h3] at h6
  refine ⟨by rw [h4]; exact h1, by rw [h4]; exact h3, h6⟩
theorem Rep_at {E : EV} {H : Heap} {I : SI} {J : SJ} {n : Nat} {A : SA} {t k : Nat} (hv : vld0 n t k) : (wsO E (I, J, n, A))[off t k]? = some (adr E t k, cellE E t k I J A) := by
  obtain ⟨h1, h2, h3⟩ := vld0_at hv
  rw [wsO_get h1]
  simp only [adr, h3, if_true, cellAt, h2]
/-- another store at one place -/
theorem wsO_set {E : EV} {I I1 : SI} {J J1 : SJ} {n : Nat} {A A1 : SA} {t k : Nat} (hv : vld0 n t k) (hne : ∀ a b, (a, b) ≠ (t, k) → cellE E a b I1 J1 A1 = cellE E a b I J A) :
    (wsO E (I, J, n, A)).set (off t k) (adr E t k, cellE E t k I1 J1 A1) = wsO E (I1, J1, n, A1) := by
  obtain ⟨h1, h2, h3⟩ := vld0_at hv
  apply List.ext_getElem?
  intro i
  by_cases hi : i = off t k
  · subst hi
    rw [List.getElem?_set_self (by rw [wsO_len]; exact h1), Rep_at (H := #[]) hv]
  · rw [List.getElem?_set_ne (Ne.symm hi)]
    by_cases hn : i < n
    · rw [wsO_get hn, wsO_get hn]
      obtain ⟨-, -, h117, -⟩ := hv
      have h4 := off_at i (by omega)
      unfold cellAt
      rw [hne]
      intro hq
      have e1 : (nthD allIds i (99, 0)).1 = t := congrArg Prod.fst hq
      have e2 : (nthD allIds i (99, 0)).2 = k := congrArg Prod.snd hq
      rw [e1, e2] at h4
      exact hi h4.symm
    · rw [List.getElem?_eq_none (by rw [wsO_len]; omega), List.getElem?_eq_none (by rw [wsO_len]; omega)]
end
section
/-! THE WORDS AND THE STATICS that every method of the claim stands on. -/
def gw : List Cond := lw_tbl.filter goodWord
theorem inG {w : Cond} {i : Nat} (h : lw_tbl[i]? = some w) (hg : goodWord w = true) : w ∈ gw := List.mem_filter.mpr ⟨List.mem_of_getElem? h, hg⟩
theorem gw_good {w : Cond} (h : w ∈ gw) : (w.onTables && w.keeps) = true ∨ ∃ ty, w = .arrayClass ty := good_of_word (List.mem_filter.mp h).2
def isNest : Cond → Bool
  | .fieldLinkNest .. => true
  | .methodLinkNest .. => true
  | _ => false
def nestW : List Cond := lw_tbl.filter isNest
theorem inN {w : Cond} {i : Nat} (h : lw_tbl[i]? = some w) (hg : isNest w = true) : w ∈ nestW := List.mem_filter.mpr ⟨List.mem_of_getElem? h, hg⟩
/-- an array of arrays of ints can be made -/
def AOA (U : State) : Prop := (Cond.arrayOver (.array .int)).before #[] U = true
theorem AOA.spec {s : State} (h : AOA s) : ∃ comp c k, s.vm.findClass (FieldType.array .int).toString = some comp ∧ (s.vm.classes.findIdx? fun (x : Class) => match x.kind with | .array component _ => component == comp | _ => false) = some c ∧ s.vm.classes[c]? = some k ∧ k.kind = .array comp (.array .int) ∧ s.vm.findClass ("[" ++ (FieldType.array .int).toString) = some c := by
  simp only [AOA, Cond.before, Cond.holds, Cond.value, beq_iff_eq] at h
  cases hc : s.vm.findClass (FieldType.array .int).toString with
  | none => simp [hc] at h
  | some comp =>
    simp only [hc, Option.bind_some, Option.bind_eq_some_iff, Option.map_eq_some_iff] at h
    obtain ⟨c, hi, k, hk, hb⟩ := h
    obtain ⟨hlt, hp, -⟩ := Array.findIdx?_eq_some_iff_getElem.mp hi
    have hkk : s.vm.classes[c] = k := (Array.getElem?_eq_some_iff.mp hk).2
    rw [hkk] at hp
    cases hkind : k.kind with
    | array component ty =>
      rw [hkind] at hb hp
      simp at hb hp
      exact ⟨comp, c, k, rfl, hi, hk, by rw [hkind, hp, hb.1], hb.2⟩
    | _ => rw [hkind] at hb; simp at hb
theorem AOA.moved {u U : State} (hvm : u.vm.Alike U.vm) (h : AOA u) : AOA U := by
  obtain ⟨comp, c, k, h1, h2, h3, h4, h5⟩ := AOA.spec h
  obtain ⟨k', hk', he⟩ := hvm.2.2 _ _ h3
  have hi : (U.vm.classes.findIdx? fun (x : Class) => match x.kind with | .array component _ => component == comp | _ => false) = some c := by
    refine (va_idx_bare U.vm comp).symm.trans ?_
    first | rw [hvm.bare_eq] | rw [← hvm.bare_eq]
    exact (va_idx_bare u.vm comp).trans h2
  have hkind : k'.kind = .array comp (.array .int) := by rw [he]; exact h4
  have f1 : U.vm.findClass (FieldType.array .int).toString = some comp := by rw [hvm.findClass]; exact h1
  have f2 : U.vm.findClass ("[" ++ (FieldType.array .int).toString) = some c := by rw [hvm.findClass]; exact h5
  unfold AOA Cond.before Cond.holds
  simp only [Cond.value]
  rw [f1, Option.bind_some]
  refine (congrArg (fun o : Option Nat => (o.bind (fun c => (U.vm.classes[c]?).map fun (k : Class) => match k.kind with | .array _ ty => decide (ty = FieldType.array .int) && decide (U.vm.findClass ("[" ++ (FieldType.array .int).toString) = some c) | _ => false) == some true)) hi).trans ?_
  simp [hk', hkind, f2]
def stN : List (String × String) := [("OutcropAges", "LOWER"), ("OutcropAges", "HIGHER"), ("OutcropAges$Line", "BEGIN_ZONE"), ("OutcropAges$Line", "END_ZONE"), ("OutcropAges$Algebra", "TWO")]
def sidx : List Nat := [54, 87, 89, 91, 93, 95, 97, 99, 101]
def snam : List String := ["events", "before", "covers", "cuts", "outlasts", "within", "with", "touches", "same"]
abbrev KKt (E : EV) : List (ClassId × FieldType) := [(eC E 0, .int), (eC E 1, .boolean), (eC E 2, .long), (eC E 3, .object RX1), (eC E 4, .array .int)]
def KKz (E : EV) (U : State) : Prop := (∀ i, i < 5 → va_Z (nthD stN i ("", "")).1 (nthD stN i ("", "")).2 "[I" (.ref (eS E (60 + i) 0)) (eA E) U U.heap ∧ va_T .int (eS E (60 + i) 0) (nthD clen i 0) (fun j => .int (nthD (nthD ctab i []) j 0)) (eA E) U U.heap) ∧
  va_Z "java/lang/String" "COMPACT_STRINGS" "Z" (.int 1) (eA E) U U.heap ∧ vk_S 9 slen stxt (eS E 66) (eS E 67) (eA E) U U.heap ∧ va_X (eS E 65 0) (eN E) (eX E) U U.heap
def KK (E : EV) (U : State) : Prop := va_K (eD E) vwCl (KKt E) U ∧ (∀ w ∈ nestW, va_Nw w U) ∧ va_AO RX1 U ∧ AOA U ∧ KKz E U ∧ (∀ i, i < 9 → vk_R RX6 (nthD sidx i 0) (nthD snam i "") (eS E 66 i) U) ∧ eS E 65 0 < eB E ∧ eN E ≤ 2048 ∧ eB E ≤ U.heap.size
theorem KKz.move {E : EV} {s U : State} (hA : s.vm.Alike U.vm) (hq : ∀ q : Nat, q < eB E → U.heap[q]? = s.heap[q]?) (hs : eS E 65 0 < eB E) (h : KKz E s) : KKz E U := by
  have hq' : ∀ a : Nat, a < s.heap.size → ¬ eA E a → U.heap[a]? = s.heap[a]? := fun a _ h2 => hq a (Nat.not_le.mp h2)
  obtain ⟨h1, h2, h3, h4⟩ := h
  exact ⟨fun i hi => ⟨((h1 i hi).1.moved hA).kept hq', ((h1 i hi).2.moved hA).kept hq'⟩, (h2.moved hA).kept hq', (h3.moved hA).kept hq', (h4.moved hA).kept (hq _ hs)⟩
theorem nest_warm {w : Cond} (hw : isNest w = true) {s U : State} (hW : s.WarmedH U.vm) (h : va_Nw w s) : va_Nw w U := by
  cases w <;> first | exact va_Nw.warmF hW h | exact va_Nw.warmM hW h | (simp [isNest] at hw)
theorem KK.move {E : EV} {s U : State} (hW : s.WarmedH U.vm) (hq : ∀ q : Nat, q < eB E → U.heap[q]? = s.heap[q]?) (hz : eB E ≤ U.heap.size) (h : KK E s) : KK E U := by
  obtain ⟨h1, h2, h3, h4, h5, h6, h7, h8, h9⟩ := h
  have hA := hW.alike
  exact ⟨h1.moved hA, fun w hw => nest_warm (List.mem_filter.mp hw).2 hW (h2 w hw), h3.moved hA, h4.moved hA, h5.move hA hq h7, fun i hi => (h6 i hi).warm hW, h7, h8, hz⟩
theorem nest_same {w : Cond} (hw : isNest w = true) {s U : State} (hv : s.vm = U.vm) (h : va_Nw w s) : va_Nw w U := by
  cases w <;> first | exact va_Nw.same rfl hv h | (simp [isNest] at hw)
theorem KK.same {E : EV} {s U : State} (hv : U.vm = s.vm) (hh : U.heap = s.heap) (h : KK E s) : KK E U := by
  obtain ⟨h1, h2, h3, h4, h5, h6, h7, h8, h9⟩ := h
  have hA : s.vm.Alike U.vm := by rw [hv]; exact Vm.Alike.refl _
  exact ⟨h1.moved hA, fun w hw => nest_same (List.mem_filter.mp hw).2 hv.symm (h2 w hw), h3.moved hA, h4.moved hA, h5.move hA (fun q _ => by rw [hh]) h7, fun i hi => (h6 i hi).same hv, h7, h8, by rw [hh]; exact h9⟩
/-! A method's CONTRACT over the abstract machine: from the store σ with these arguments, at most d frames below it, it returns with Q. -/
abbrev Yd : Type := MethodName × ByteArray × Nat × Option FieldType
abbrev ywd (Y : Yd) : Cond := .code Y.1 Y.2.1 Y.2.2.1 Y.2.2.2
def rmd (d mc ms : Nat) : Room := { frames := d, cells := mc, slots := ms, locals := 40 * d }
def PcA (E : EV) (as : List AV) (σ : ST) : Array Value → State → Prop := fun v U => v = (as.map (conc E)).toArray ∧ KK E U ∧ Rep E U.heap σ ∧ ∀ a ∈ as, vok σ.2.2.1 a
def QcA (E : EV) (n1 : Nat) (Q : Option AV → ST → Prop) : Array Value → State → Outcome → State → Prop := fun _ st oc t => (∃ (r : Option AV) (σ : ST), oc = .returned (r.map (conc E)) ∧ Q r σ ∧ Rep E t.heap σ ∧ σ.2.2.1 = n1 ∧ ∀ a, r = some a → vok n1 a) ∧ va_F (eA E) st t
def Tri (d : Nat) (Y : Yd) (n1 : Nat) (as : List AV) (σ : ST) (Q : Option AV → ST → Prop) : Prop :=
  σ.2.2.1 ≤ n1 ∧ n1 ≤ 117 ∧ ∀ E : EV, Met (eL E) Y.1 (ywd Y :: gw) (rmd d (n1 - σ.2.2.1) (sz n1 - sz σ.2.2.1)) (PcA E as σ) (QcA E n1 Q) (n1 - σ.2.2.1) (sz n1 - sz σ.2.2.1) (eA E)
theorem PcA.blind {E : EV} {as : List AV} {σ : ST} : FrameBlind (PcA E as σ) := by
  intro a U g mk h
  obtain ⟨h1, h2, h3, h4⟩ := h
  exact ⟨h1, KK.same (s := U) rfl rfl h2, h3, h4⟩
theorem Tri.mono {d : Nat} {Y : Yd} {n1 : Nat} {as : List AV} {σ : ST} {Q Q1 : Option AV → ST → Prop} (h : Tri d Y n1 as σ Q) (hQ : ∀ r σ, Q r σ → Q1 r σ) : Tri d Y n1 as σ Q1 := by
  obtain ⟨h1, h2, h3⟩ := h
  refine ⟨h1, h2, fun E => ?_⟩
  intro p e ha hc hk s m args below hf happ hP hK
  obtain ⟨n, o, a1, a2, a3, ⟨⟨r, σ1, b1, b2, b3⟩, b4⟩, a5⟩ := h3 E p e ha hc hk s m args below hf happ hP hK
  exact ⟨n, o, a1, a2, a3, ⟨⟨r, σ1, b1, hQ r σ1 b2, b3⟩, b4⟩, a5⟩
end
section
/-! THE STEPS of the abstract machine, as conditions: wpn says what must hold at an instruction so that the method comes to its end with Q. -/
/-- an instruction: its place, itself, its length, numbers that it names (a local, targets), its constant -/
abbrev EN : Type := Nat × Instr × Nat × List Nat × Int32
abbrev LV : Type := List (Option AV)
/-- a class's constant pool, as far as its code names it: fields, methods, classes, statics, longs, ints, texts -/
abbrev Pool : Type := String × List (Nat × (Nat × Nat × Bool × Nat)) × List (Nat × (Nat × Nat × Nat × Yd × List Nat)) × List (Nat × (Nat × List Nat)) × List (Nat × (Nat × Bool × Nat)) × List (Nat × (Int64 × Nat)) × List (Nat × (Int32 × Nat)) × List (Nat × Nat)
abbrev MD : Type := Yd × Pool × Bool × List EN
abbrev mY (M : MD) : Yd := M.1
abbrev mP (M : MD) : Pool := M.2.1
abbrev mI (M : MD) : Bool := M.2.2.1
abbrev mC (M : MD) : List EN := M.2.2.2
def lget : LV → Nat → Option AV
  | [], _ => none
  | a :: _, 0 => a
  | _ :: l, n + 1 => lget l n
def lset : LV → Nat → Option AV → LV
  | [], _, _ => []
  | _ :: l, 0, v => v :: l
  | a :: l, n + 1, v => a :: lset l n v
/-- the place ahead holds a long -/
def plong (ls : LV) : Nat → Bool
  | 0 => false
  | n + 1 => match lget ls n with
    | some (.inr (.inl _)) => true
    | _ => false
def h0 : List Nat → Nat
  | [] => 0
  | a :: _ => a
def sst (ls : LV) (i : Nat) (v : AV) (r : List AV) : Option (LV × List AV) := match plong ls i with
  | true => none
  | false => match Nat.ble ls.length i with
    | true => none
    | false => some (lset ls i (some v), r)
/-- instructions that look at locals and the operand stack alone -/
def sfun (ins : Instr) (tg : List Nat) (cv : Int32) (ls : LV) (st : List AV) : Option (LV × List AV) := match ins with
  | .iconst _ => some (ls, vi cv :: st)
  | .bipush _ => some (ls, vi cv :: st)
  | .sipush _ => some (ls, vi cv :: st)
  | .lconst _ => some (ls, vl 0 :: st)
  | .iload_n _ => (match lget ls (h0 tg) with | some (.inl x) => some (ls, vi x :: st) | _ => none)
  | .iload _ => (match lget ls (h0 tg) with | some (.inl x) => some (ls, vi x :: st) | _ => none)
  | .lload_n _ => (match lget ls (h0 tg) with | some (.inr (.inl x)) => some (ls, vl x :: st) | _ => none)
  | .aload_n _ => (match lget ls (h0 tg) with | some (.inr (.inr (some (t, k)))) => some (ls, vr t k :: st) | _ => none)
  | .aload _ => (match lget ls (h0 tg) with | some (.inr (.inr (some (t, k)))) => some (ls, vr t k :: st) | _ => none)
  | .istore_n _ => (match st with | .inl x :: r => sst ls (h0 tg) (vi x) r | _ => none)
  | .istore _ => (match st with | .inl x :: r => sst ls (h0 tg) (vi x) r | _ => none)
  | .astore_n _ => (match st with | .inr (.inr (some (t, k))) :: r => sst ls (h0 tg) (vr t k) r | _ => none)
  | .lstore_n _ => (match st with | .inr (.inl x) :: r => (match plong ls (h0 tg) with | true => none | false => (match Nat.ble ls.length (h0 tg + 1) with | true => none | false => some (lset (lset ls (h0 tg) (some (vl x))) (h0 tg + 1) none, r))) | _ => none)
  | .iinc _ _ => (match lget ls (h0 tg) with | some (.inl x) => sst ls (h0 tg) (vi (x + cv)) st | _ => none)
  | .iadd => (match st with | .inl y :: .inl x :: r => some (ls, vi (x + y) :: r) | _ => none)
  | .isub => (match st with | .inl y :: .inl x :: r => some (ls, vi (x - y) :: r) | _ => none)
  | .imul => (match st with | .inl y :: .inl x :: r => some (ls, vi (x * y) :: r) | _ => none)
  | .iand => (match st with | .inl y :: .inl x :: r => some (ls, vi (x &&& y) :: r) | _ => none)
  | .ior => (match st with | .inl y :: .inl x :: r => some (ls, vi (x ||| y) :: r) | _ => none)
  | .ixor => (match st with | .inl y :: .inl x :: r => some (ls, vi (x ^^^ y) :: r) | _ => none)
  | .ishl => (match st with | .inl y :: .inl x :: r => some (ls, vi (x <<< (y &&& 31)) :: r) | _ => none)
  | .ishr => (match st with | .inl y :: .inl x :: r => some (ls, vi (x >>> (y &&& 31)) :: r) | _ => none)
  | .iushr => (match st with | .inl y :: .inl x :: r => some (ls, vi ((x.toUInt32 >>> (y.toUInt32 &&& Int32.toUInt32 31)).toInt32) :: r) | _ => none)
  | .land => (match st with | .inr (.inl y) :: .inr (.inl x) :: r => some (ls, vl (x &&& y) :: r) | _ => none)
  | .lor => (match st with | .inr (.inl y) :: .inr (.inl x) :: r => some (ls, vl (x ||| y) :: r) | _ => none)
  | .lshl => (match st with | .inl y :: .inr (.inl x) :: r => some (ls, vl (x <<< (y.toInt64 &&& 63)) :: r) | _ => none)
  | .lshr => (match st with | .inl y :: .inr (.inl x) :: r => some (ls, vl (x >>> (y.toInt64 &&& 63)) :: r) | _ => none)
  | .i2l => (match st with | .inl x :: r => some (ls, vl x.toInt64 :: r) | _ => none)
  | .l2i => (match st with | .inr (.inl x) :: r => some (ls, vi x.toInt32 :: r) | _ => none)
  | .i2c => (match st with | .inl x :: r => some (ls, vi (x.toUInt32 % 65536).toInt32 :: r) | _ => none)
  | .dup => (match st with | .inl x :: r => some (ls, vi x :: vi x :: r) | .inr (.inr q) :: r => some (ls, .inr (.inr q) :: .inr (.inr q) :: r) | _ => none)
  | .pop => (match st with | .inl _ :: r => some (ls, r) | .inr (.inr _) :: r => some (ls, r) | _ => none)
  | .dup2 => (match st with | .inl x :: .inl y :: r => some (ls, vi x :: vi y :: vi x :: vi y :: r) | .inl x :: .inr (.inr q) :: r => some (ls, vi x :: .inr (.inr q) :: vi x :: .inr (.inr q) :: r) | _ => none)
  | _ => none
def wcmp (c : Jvm.ClassFile.Cond) (x y : Int32) (A B : Prop) : Prop := match c with
  | .eq => (x = y → A) ∧ (¬ x = y → B)
  | .ne => (¬ x = y → A) ∧ (x = y → B)
  | .lt => (x < y → A) ∧ (¬ x < y → B)
  | .ge => (y ≤ x → A) ∧ (¬ y ≤ x → B)
  | .gt => (y < x → A) ∧ (¬ y < x → B)
  | .le => (x ≤ y → A) ∧ (¬ x ≤ y → B)
def jmp : List EN → Nat → List EN
  | [], _ => []
  | e :: r, t => match Nat.beq e.1 t with
    | true => e :: r
    | false => jmp r t
def wsw (x : Int32) (go : Nat → Prop) : List Nat → Prop
  | v :: t :: r => (x = nI v → go t) ∧ wsw x go r
  | _ => True
def wdf (x : Int32) (go : Prop) : List Nat → Prop
  | v :: _ :: r => ¬ x = nI v → wdf x go r
  | _ => go
def wref (t1 cd o : Nat) (k : AV → Prop) : Prop := match cd with
  | 0 => k (vr t1 o)
  | 1 => k (vr t1 (2 * o + 1))
  | m + 2 => k (vr t1 m)
def vldB (n t k : Nat) : Bool := Nat.blt (off t k) n
def c60 : List Int32 := nthD ctab 0 []
def c61 : List Int32 := nthD ctab 1 []
def c62 : List Int32 := nthD ctab 2 []
def c63 : List Int32 := nthD ctab 3 []
def c64 : List Int32 := nthD ctab 4 []
def wtab (t : Nat) (i : Int32) (k : Int32 → Prop) : Prop := match t with
  | 60 => vp_in i 10 ∧ k (nthD c60 i.toNatClampNeg 0)
  | 61 => vp_in i 10 ∧ k (nthD c61 i.toNatClampNeg 0)
  | 62 => vp_in i 13 ∧ k (nthD c62 i.toNatClampNeg 0)
  | 63 => vp_in i 13 ∧ k (nthD c63 i.toNatClampNeg 0)
  | 64 => vp_in i 169 ∧ k (nthD c64 i.toNatClampNeg 0)
  | _ => False
/-- instructions that look at the store -/
def whp (X : Option (Nat × (Nat → Int32))) (P : Pool) (ini : Bool) (N1 : Nat) (ins : Instr) (st : List AV) (σ : ST) (k : List AV → ST → Prop) : Prop := match σ with
  | (I, J, n, A) => match ins with
    | .getfield idx => (match alook P.2.1 idx with
      | some (ci, j, _, _) => (match st with
        | .inr (.inr (some (t, o))) :: r => (match Nat.beq ci 100 with
          | true => (match Nat.beq t 66 with
            | true => (match j with
              | 0 => k (vr 67 o :: r) σ
              | _ => k (vi 0 :: r) σ)
            | false => False)
          | false => (match nthD tinfo t (99, 0) with
            | (0, c) => (match Nat.beq c ci with
              | true => (match nthD (nthD ftab ci []) j (9, 0, 0) with
                | (2, t1, cd) => (match A t o j with
                  | true => (match Nat.beq n 117 with
                    | true => wref t1 cd o (fun v => k (v :: r) σ)
                    | false => (match vldB n t1 (rtg cd o) with
                      | true => wref t1 cd o (fun v => k (v :: r) σ)
                      | false => False))
                  | false => False)
                | (0, _, _) => k (vi (I t o j) :: r) σ
                | (1, _, _) => k (vi (I t o j) :: r) σ
                | _ => False)
              | false => False)
            | _ => False))
        | _ => False)
      | none => False)
    | .putfield idx => (match alook P.2.1 idx with
      | some (ci, j, nest, _) => (match st with
        | v :: .inr (.inr (some (t, o))) :: r => (match nthD tinfo t (99, 0) with
          | (0, c) => (match Nat.beq c ci with
            | true => (match nthD (nthD ftab ci []) j (9, 0, 0) with
              | (0, _, _) => (match v with | .inl x => k r (uI I t o j x, J, n, A) | _ => False)
              | (1, _, _) => (match v with | .inl x => (x = 0 ∨ x = 1) ∧ k r (uI I t o j x, J, n, A) | _ => False)
              | (2, t1, cd) => (match ini && !nest with
                | true => (match v with | .inr (.inr (some (t2, o2))) => (t2 = t1 ∧ o2 = rtg cd o) ∧ k r (I, J, n, uA A t o j) | _ => False)
                | false => False)
              | _ => False)
            | false => False)
          | _ => False)
        | _ => False)
      | none => False)
    | .iaload => (match st with
      | .inl i :: .inr (.inr (some (t, o))) :: r => (match nthD tinfo t (99, 0) with
        | (1, m) => vp_in i m ∧ k (vi (I t o i.toNatClampNeg) :: r) σ
        | (99, _) => (match Nat.beq t 65 with
          | true => (match X with | some (L, xs) => vp_in i L ∧ k (vi (xs i.toNatClampNeg) :: r) σ | none => False)
          | false => wtab t i (fun x => k (vi x :: r) σ))
        | _ => False)
      | _ => False)
    | .iastore => (match st with
      | .inl x :: .inl i :: .inr (.inr (some (t, o))) :: r => (match nthD tinfo t (99, 0) with
        | (1, m) => vp_in i m ∧ k r (uI I t o i.toNatClampNeg x, J, n, A)
        | _ => False)
      | _ => False)
    | .baload => (match st with
      | .inl i :: .inr (.inr (some (t, o))) :: r => (match nthD tinfo t (99, 0) with
        | (2, m) => vp_in i m ∧ k (vi (I t o i.toNatClampNeg) :: r) σ
        | (99, _) => (match Nat.beq t 67 with
          | true => vp_in i (nthD slen o 0) ∧ k (vi (nthD (nthD stxt o []) i.toNatClampNeg 0) :: r) σ
          | false => False)
        | _ => False)
      | _ => False)
    | .bastore => (match st with
      | .inl x :: .inl i :: .inr (.inr (some (t, o))) :: r => (match nthD tinfo t (99, 0) with
        | (2, m) => vp_in i m ∧ (x = 0 ∨ x = 1) ∧ k r (uI I t o i.toNatClampNeg x, J, n, A)
        | _ => False)
      | _ => False)
    | .laload => (match st with
      | .inl i :: .inr (.inr (some (t, o))) :: r => (match Nat.beq t 14 with
        | true => vp_in i (tlen 14 o) ∧ k (vl (J o i.toNatClampNeg) :: r) σ
        | false => False)
      | _ => False)
    | .lastore => (match st with
      | .inr (.inl x) :: .inl i :: .inr (.inr (some (t, o))) :: r => (match Nat.beq t 14 with
        | true => vp_in i (tlen 14 o) ∧ k r (I, uJ J o i.toNatClampNeg x, n, A)
        | false => False)
      | _ => False)
    | .aaload => (match st with
      | .inl i :: .inr (.inr (some (t, o))) :: r => (match Nat.beq n 117 with
        | true => (match nthD tinfo t (99, 0) with
          | (4, m) => vp_in i m ∧ (match A t o i.toNatClampNeg with | true => k (vr 3 (10 + i.toNatClampNeg) :: r) σ | false => False)
          | (5, m) => vp_in i m ∧ (I t o i.toNatClampNeg).toNatClampNeg < 12 ∧ (match A t o i.toNatClampNeg with | true => k (vr 3 (I t o i.toNatClampNeg).toNatClampNeg :: r) σ | false => False)
          | (6, m) => vp_in i m ∧ k (vr 10 (5 * o + i.toNatClampNeg) :: r) σ
          | _ => False)
        | false => False)
      | _ => False)
    | .aastore => (match st with
      | .inr (.inr (some (t2, b))) :: .inl i :: .inr (.inr (some (t, o))) :: r => (match Nat.beq t2 3 with
        | true => (match nthD tinfo t (99, 0) with
          | (4, m) => vp_in i m ∧ b = 10 + i.toNatClampNeg ∧ k r (I, J, n, uA A t o i.toNatClampNeg)
          | (5, m) => vp_in i m ∧ k r (uI I t o i.toNatClampNeg (nI b), J, n, uA A t o i.toNatClampNeg)
          | _ => False)
        | false => False)
      | _ => False)
    | .arraylength => (match st with
      | .inr (.inr (some (t, o))) :: r => (match nthD tinfo t (99, 0) with
        | (1, m) => k (vi (nI m) :: r) σ
        | (3, _) => k (vi (nI (tlen t o)) :: r) σ
        | (99, _) => (match Nat.beq t 65 with
          | true => (match X with | some (L, _) => k (vi (nI L) :: r) σ | none => False)
          | false => (match Nat.beq t 67 with
            | true => k (vi (nI (nthD slen o 0)) :: r) σ
            | false => False))
        | _ => False)
      | _ => False)
    | .new idx => (match alook P.2.2.2.1 idx with
      | some (ci, _) => ∃ t o, nthD allIds n (99, 0) = (t, o) ∧ nthD tinfo t (99, 0) = (0, ci) ∧ n + 1 ≤ N1 ∧ k (vr t o :: st) (zI I t o, J, n + 1, zA A t o)
      | none => False)
    | .newarray ty => (match st with
      | .inl c :: r => (match ty with
        | .int => ∃ t o m, nthD allIds n (99, 0) = (t, o) ∧ nthD tinfo t (99, 0) = (1, m) ∧ c = nI m ∧ n + 1 ≤ N1 ∧ k (vr t o :: r) (zI I t o, J, n + 1, A)
        | .boolean => ∃ t o m, nthD allIds n (99, 0) = (t, o) ∧ nthD tinfo t (99, 0) = (2, m) ∧ c = nI m ∧ n + 1 ≤ N1 ∧ k (vr t o :: r) (zI I t o, J, n + 1, A)
        | .long => ∃ o, nthD allIds n (99, 0) = (14, o) ∧ c = nI (tlen 14 o) ∧ n + 1 ≤ N1 ∧ k (vr 14 o :: r) (I, zJ J o, n + 1, A)
        | _ => False)
      | _ => False)
    | .anewarray idx => (match alook P.2.2.2.1 idx with
      | some (ci, _) => (match Nat.beq ci 1 with
        | true => (match st with
          | .inl c :: r => ∃ t o m kd, nthD allIds n (99, 0) = (t, o) ∧ nthD tinfo t (99, 0) = (kd, m) ∧ (kd = 4 ∨ kd = 5) ∧ c = nI m ∧ n + 1 ≤ N1 ∧ k (vr t o :: r) (zI I t o, J, n + 1, zA A t o)
          | _ => False)
        | false => False)
      | none => False)
    | .getstatic idx => (match alook P.2.2.2.2.1 idx with
      | some (s, _, _) => (match Nat.beq s 59 with
        | true => k (vi 1 :: st) σ
        | false => k (vr s 0 :: st) σ)
      | none => False)
    | .ldc2_w idx => (match alook P.2.2.2.2.2.1 idx with
      | some (v, _) => k (vl v :: st) σ
      | none => False)
    | .ldc_w idx => (match alook P.2.2.2.2.2.2.1 idx with
      | some (v, _) => k (vi v :: st) σ
      | none => False)
    | .ldc idx => (match alook P.2.2.2.2.2.2.2 idx with
      | some i => k (vr 66 i :: st) σ
      | none => False)
    | .idiv => (match st with | .inl y :: .inl x :: r => ¬ y = 0 ∧ k (vi (x / y) :: r) σ | _ => False)
    | .irem => (match st with | .inl y :: .inl x :: r => ¬ y = 0 ∧ k (vi (x - x / y * y) :: r) σ | _ => False)
    | _ => False
def spl : Nat → List AV → List AV → List AV × List AV
  | 0, acc, st => (acc, st)
  | n + 1, acc, a :: st => spl n (a :: acc) st
  | _ + 1, acc, [] => (acc, [])
def wsum : List AV → Nat
  | [] => 0
  | a :: r => avc a + wsum r
/-- calls -/
def wcl (P : Pool) (d N1 : Nat) (ins : Instr) (st : List AV) (σ : ST) (k : List AV → ST → Prop) : Prop := match ins with
  | .invokevirtual idx => (match alook P.2.2.1 idx with
    | some (kd, na, ci, Y, _) => (match spl na [] st with
      | (as, .inr (.inr (some (t, o))) :: r) => (match Nat.ble (wsum r) 8 with
        | true => (match kd with
          | 0 => (match nthD tinfo t (99, 0) with
            | (0, c) => (match Nat.beq c ci with
              | true => ∃ d1 n1, d1 < d ∧ n1 ≤ N1 ∧ Tri d1 Y n1 (vr t o :: as) σ (fun v σ1 => k (v.toList ++ r) σ1)
              | false => False)
            | _ => False)
          | 1 => (match nthD tinfo t (99, 0) with
            | (0, c) => (match Nat.beq c ci with
              | true => ∃ d1 n1, d1 < d ∧ n1 ≤ N1 ∧ Tri d1 Y n1 (vr t o :: as) σ (fun v σ1 => k (v.toList ++ r) σ1)
              | false => False)
            | _ => False)
          | 10 => (match Nat.beq t 66 with
            | true => ∃ d1 n1, d1 < d ∧ n1 ≤ N1 ∧ Tri d1 Y n1 (vr t o :: as) σ (fun v σ1 => k (v.toList ++ r) σ1)
            | false => False)
          | _ => False)
        | false => False)
      | _ => False)
    | none => False)
  | .invokestatic idx => (match alook P.2.2.1 idx with
    | some (kd, na, _, Y, _) => (match kd with
      | 7 => (match st with | .inl y :: .inl x :: r => (match Nat.ble (wsum r) 8 with | true => 0 < d ∧ k (vi (if x < y then y else x) :: r) σ | false => False) | _ => False)
      | 8 => (match st with | .inl y :: .inl x :: r => (match Nat.ble (wsum r) 8 with | true => 0 < d ∧ k (vi (if y < x then y else x) :: r) σ | false => False) | _ => False)
      | 9 => (match st with
        | .inl c :: .inl dp :: .inr (.inr (some (t1, o1))) :: .inl sp :: .inr (.inr (some (t, o))) :: r => (match nthD tinfo t (99, 0) with
          | (1, m) => (match nthD tinfo t1 (99, 0) with
            | (1, m1) => (match Nat.ble (wsum r) 8 && Nat.beq σ.2.2.1 117 with
              | true => 0 < d ∧ ¬ sp < 0 ∧ ¬ dp < 0 ∧ ¬ c < 0 ∧ sp.toNatClampNeg + c.toNatClampNeg ≤ m ∧ dp.toNatClampNeg + c.toNatClampNeg ≤ m1 ∧ k r (cI σ.1 t o t1 o1 sp.toNatClampNeg dp.toNatClampNeg c.toNatClampNeg, σ.2.1, σ.2.2.1, σ.2.2.2)
              | false => False)
            | _ => False)
          | _ => False)
        | _ => False)
      | 2 => (match spl na [] st with
        | (as, r) => (match Nat.ble (wsum r) 8 && Nat.beq as.length na with
          | true => ∃ d1 n1, d1 < d ∧ n1 ≤ N1 ∧ Tri d1 Y n1 as σ (fun v σ1 => k (v.toList ++ r) σ1)
          | false => False))
      | 3 => (match spl na [] st with
        | (as, r) => (match Nat.ble (wsum r) 8 && Nat.beq as.length na with
          | true => ∃ d1 n1, d1 < d ∧ n1 ≤ N1 ∧ Tri d1 Y n1 as σ (fun v σ1 => k (v.toList ++ r) σ1)
          | false => False))
      | _ => False)
    | none => False)
  | .invokespecial idx => (match alook P.2.2.1 idx with
    | some (kd, na, _, Y, _) => (match spl na [] st with
      | (as, .inr (.inr (some (t, o))) :: r) => (match Nat.ble (wsum r) 8 with
        | true => (match kd with
          | 4 => ∃ d1 n1, d1 < d ∧ n1 ≤ N1 ∧ Tri d1 Y n1 (vr t o :: as) σ (fun v σ1 => k (v.toList ++ r) σ1)
          | 5 => ∃ d1 n1, d1 < d ∧ n1 ≤ N1 ∧ Tri d1 Y n1 (vr t o :: as) σ (fun v σ1 => k (v.toList ++ r) σ1)
          | 6 => 0 < d ∧ k r σ
          | _ => False)
        | false => False)
      | _ => False)
    | none => False)
  | _ => False
def rtOk (ret : Option FieldType) (x : Int32) : Prop := match ret with
  | some .int => True
  | some .boolean => x = 0 ∨ x = 1
  | some .char => narrow .char (.int x) = .int x
  | some .byte => narrow .byte (.int x) = .int x
  | _ => False
def isRT : Option FieldType → Bool
  | some (.object _) => true
  | some (.array _) => true
  | _ => false
def wstep (X : Option (Nat × (Nat → Int32))) (M : MD) (d N1 : Nat) (Q : Option AV → ST → Prop) (k : List EN → LV → List AV → ST → Prop) (e : EN) (rest : List EN) (ls : LV) (st : List AV) (σ : ST) : Prop := match e with
  | (_, ins, _, tg, cv) => match ins with
    | .goto _ => k (jmp (mC M) (h0 tg)) ls st σ
    | .ifCond c _ => (match st with | .inl x :: r => wcmp c x 0 (k (jmp (mC M) (h0 tg)) ls r σ) (k rest ls r σ) | _ => False)
    | .if_icmp c _ => (match st with | .inl y :: .inl x :: r => wcmp c x y (k (jmp (mC M) (h0 tg)) ls r σ) (k rest ls r σ) | _ => False)
    | .tableswitch _ _ _ _ => (match st with | .inl x :: r => (match tg with | dt :: ts => wsw x (fun t => k (jmp (mC M) t) ls r σ) ts ∧ wdf x (k (jmp (mC M) dt) ls r σ) ts | [] => False) | _ => False)
    | .lookupswitch _ _ => (match st with | .inl x :: r => (match tg with | dt :: ts => wsw x (fun t => k (jmp (mC M) t) ls r σ) ts ∧ wdf x (k (jmp (mC M) dt) ls r σ) ts | [] => False) | _ => False)
    | .ireturn => (match st with | [.inl x] => σ.2.2.1 = N1 ∧ rtOk (mY M).2.2.2 x ∧ Q (some (vi x)) σ | _ => False)
    | .return_ => (match st with | [] => (mY M).2.2.2 = none ∧ σ.2.2.1 = N1 ∧ Q none σ | _ => False)
    | .areturn => (match st with | [.inr (.inr (some (t, o)))] => isRT (mY M).2.2.2 = true ∧ σ.2.2.1 = N1 ∧ Q (some (vr t o)) σ | _ => False)
    | .invokevirtual i => wcl (mP M) d N1 (.invokevirtual i) st σ (fun st1 σ1 => k rest ls st1 σ1)
    | .invokestatic i => wcl (mP M) d N1 (.invokestatic i) st σ (fun st1 σ1 => k rest ls st1 σ1)
    | .invokespecial i => wcl (mP M) d N1 (.invokespecial i) st σ (fun st1 σ1 => k rest ls st1 σ1)
    | .getfield i => whp X (mP M) (mI M) N1 (.getfield i) st σ (fun st1 σ1 => k rest ls st1 σ1)
    | .putfield i => whp X (mP M) (mI M) N1 (.putfield i) st σ (fun st1 σ1 => k rest ls st1 σ1)
    | .iaload => whp X (mP M) (mI M) N1 .iaload st σ (fun st1 σ1 => k rest ls st1 σ1)
    | .iastore => whp X (mP M) (mI M) N1 .iastore st σ (fun st1 σ1 => k rest ls st1 σ1)
    | .baload => whp X (mP M) (mI M) N1 .baload st σ (fun st1 σ1 => k rest ls st1 σ1)
    | .bastore => whp X (mP M) (mI M) N1 .bastore st σ (fun st1 σ1 => k rest ls st1 σ1)
    | .laload => whp X (mP M) (mI M) N1 .laload st σ (fun st1 σ1 => k rest ls st1 σ1)
    | .lastore => whp X (mP M) (mI M) N1 .lastore st σ (fun st1 σ1 => k rest ls st1 σ1)
    | .aaload => whp X (mP M) (mI M) N1 .aaload st σ (fun st1 σ1 => k rest ls st1 σ1)
    | .aastore => whp X (mP M) (mI M) N1 .aastore st σ (fun st1 σ1 => k rest ls st1 σ1)
    | .arraylength => whp X (mP M) (mI M) N1 .arraylength st σ (fun st1 σ1 => k rest ls st1 σ1)
    | .new i => whp X (mP M) (mI M) N1 (.new i) st σ (fun st1 σ1 => k rest ls st1 σ1)
    | .newarray i => whp X (mP M) (mI M) N1 (.newarray i) st σ (fun st1 σ1 => k rest ls st1 σ1)
    | .anewarray i => whp X (mP M) (mI M) N1 (.anewarray i) st σ (fun st1 σ1 => k rest ls st1 σ1)
    | .getstatic i => whp X (mP M) (mI M) N1 (.getstatic i) st σ (fun st1 σ1 => k rest ls st1 σ1)
    | .ldc2_w i => whp X (mP M) (mI M) N1 (.ldc2_w i) st σ (fun st1 σ1 => k rest ls st1 σ1)
    | .ldc_w i => whp X (mP M) (mI M) N1 (.ldc_w i) st σ (fun st1 σ1 => k rest ls st1 σ1)
    | .ldc i => whp X (mP M) (mI M) N1 (.ldc i) st σ (fun st1 σ1 => k rest ls st1 σ1)
    | .idiv => whp X (mP M) (mI M) N1 .idiv st σ (fun st1 σ1 => k rest ls st1 σ1)
    | .irem => whp X (mP M) (mI M) N1 .irem st σ (fun st1 σ1 => k rest ls st1 σ1)
    | i => (match sfun i tg cv ls st with
      | some (ls1, st1) => k rest ls1 st1 σ
      | none => False)
def elemN : List Nat → Nat → Bool
  | [], _ => false
  | a :: l, n => match Nat.beq a n with
    | true => true
    | false => elemN l n
def wpn (X : Option (Nat × (Nat → Int32))) (M : MD) (d N1 : Nat) (Q : Option AV → ST → Prop) (cuts : List Nat) (K : Nat → LV → List AV → ST → Prop) : Nat → List EN → LV → List AV → ST → Prop
  | 0, _, _, _, _ => False
  | _ + 1, [], _, _, _ => False
  | f + 1, e :: rest, ls, st, σ => wstep X M d N1 Q (fun sfx ls1 st1 σ1 => match sfx with
    | [] => False
    | e1 :: _ => (match elemN cuts e1.1 with
      | true => K e1.1 ls1 st1 σ1
      | false => wpn X M d N1 Q cuts K f sfx ls1 st1 σ1)) e rest ls st σ
/-! what is checked of a table of instructions -/
def swT (pc : Nat) : List Int → Nat → List Nat → Bool
  | [], _, [] => true
  | o :: os, i, v :: t :: r => decide (v = i) && decide ((pc : Int) + o = (t : Int)) && swT pc os (i + 1) r
  | _, _, _ => false
def swL (pc : Nat) : List (Int × Int) → List Nat → Bool
  | [], [] => true
  | (a, o) :: os, v :: t :: r => decide (a = (v : Int)) && decide ((pc : Int) + o = (t : Int)) && decide (v < 2147483648) && swL pc os r
  | _, _ => false
def chk (e : EN) : Bool := match e with
  | (pc, ins, len, tg, cv) => match ins with
    | .iconst n => decide (Int32.ofInt n = cv) && decide (len = 1)
    | .bipush n => decide ((Int8.ofInt n).toInt32 = cv) && decide (len = 2)
    | .sipush n => decide ((Int16.ofInt n).toInt32 = cv) && decide (len = 3)
    | .lconst n => decide ((n : Nat) = 0) && decide (len = 1)
    | .iload_n i => decide ((i : Nat) = h0 tg) && decide (len = 1)
    | .lload_n i => decide ((i : Nat) = h0 tg) && decide (len = 1)
    | .aload_n i => decide ((i : Nat) = h0 tg) && decide (len = 1)
    | .istore_n i => decide ((i : Nat) = h0 tg) && decide (len = 1)
    | .lstore_n i => decide ((i : Nat) = h0 tg) && decide (len = 1)
    | .astore_n i => decide ((i : Nat) = h0 tg) && decide (len = 1)
    | .iload i => decide (i = h0 tg) && decide (len = 2)
    | .aload i => decide (i = h0 tg) && decide (len = 2)
    | .istore i => decide (i = h0 tg) && decide (len = 2)
    | .iinc i n => decide (i = h0 tg) && decide (Int32.ofInt n = cv) && decide (len = 3)
    | .goto o => decide ((pc : Int) + o = (h0 tg : Int)) && decide (len = 3)
    | .ifCond _ o => decide ((pc : Int) + o = (h0 tg : Int)) && decide (len = 3)
    | .if_icmp _ o => decide ((pc : Int) + o = (h0 tg : Int)) && decide (len = 3)
    | .tableswitch df lo hi os => (match tg with | dt :: ts => decide ((pc : Int) + df = (dt : Int)) && decide (lo = 0) && decide (hi + 1 = (os.size : Int)) && decide (os.size < 1000) && swT pc os.toList 0 ts | [] => false)
    | .lookupswitch df ps => (match tg with | dt :: ts => decide ((pc : Int) + df = (dt : Int)) && swL pc ps.toList ts && (ps.toList.zip (ps.toList.drop 1)).all (fun (a, next) => a.1 < next.1) | [] => false)
    | .getfield _ => decide (len = 3)
    | .putfield _ => decide (len = 3)
    | .getstatic _ => decide (len = 3)
    | .new _ => decide (len = 3)
    | .anewarray _ => decide (len = 3)
    | .invokevirtual _ => decide (len = 3)
    | .invokestatic _ => decide (len = 3)
    | .invokespecial _ => decide (len = 3)
    | .ldc _ => decide (len = 2)
    | .ldc_w _ => decide (len = 3)
    | .ldc2_w _ => decide (len = 3)
    | .newarray _ => decide (len = 2)
    | .multianewarray _ _ => decide (len = 4)
    | _ => decide (len = 1)
def wfc : List EN → Bool
  | e :: e1 :: r => decide (e1.1 = e.1 + e.2.2.1) && wfc (e1 :: r)
  | _ => true
def decT (b : ByteArray) (C : List EN) : Bool := C.all (fun e => decide (decode b e.1 = .ok (e.2.1, e.2.2.1)))
end
section
/-! WHAT IS MEANT by a place of a method: from every machine that stands there, the method comes to its end. -/
def XE (X : Option (Nat × (Nat → Int32))) (E : EV) : Prop := match X with
  | none => True
  | some (L, xs) => eN E = L ∧ eX E = xs
def Ctx (E : EV) (M : MD) (d N0 N1 : Nat) (R : Room) (p : Program) (s : State) (m : MethodId) (meth : Method) (c : Code) (args : Array Value) : Prop :=
  p.tables.exec = Jvm.exec ∧ c.code = (mY M).2.1 ∧ c.maxLocals = (mY M).2.2.1 ∧ s.vm.findClass (mP M).1 = some m.cls ∧ (∀ w ∈ gw, w.before args s = true) ∧ (mI M = true → meth.name = "<init>") ∧ KK E s ∧ N0 ≤ N1 ∧ N1 ≤ 117 ∧ d ≤ R.frames ∧ 40 * d ≤ R.locals ∧ N1 - N0 ≤ R.cells ∧ sz N1 - sz N0 ≤ R.slots
def retI : Option AV → Instr
  | none => .return_
  | some (.inr (.inr _)) => .areturn
  | some _ => .ireturn
def rkOk (ret : Option FieldType) : Option AV → Prop
  | none => ret = none
  | some (.inl x) => rtOk ret x
  | some (.inr (.inl _)) => False
  | some (.inr (.inr _)) => isRT ret = true
def RetOk (E : EV) (M : MD) (N0 N1 : Nat) (Q : Option AV → ST → Prop) (R : Room) (Z : State → Prop) (p : Program) (e : Env) (s : State) (m : MethodId) (args : Array Value) (below : List Frame) (meth : Method) (c : Code) : Prop :=
  ∀ (H : Heap) (locs : List Loc) (la : Array Slot) (v : Option AV) (σ : ST) (pc : Nat), Rep E H σ → va_S (eA E) s.heap H locs → σ.2.2.1 = N1 → Q v σ → (∀ a, v = some a → vok N1 a) → rkOk (mY M).2.2.2 v → decode (mY M).2.1 pc = .ok (retI v, 1) →
    W p (eL E) e R s m args below meth c H locs (N1 - N0) (sz N1 - sz N0) Z (F0 m pc la (v.toList.map (conc E)))
def HL (E : EV) (la : Array Slot) (nL : Nat) (ls : LV) : Prop := la.size = nL ∧ lv_wf la ∧ ls.length = nL ∧ ∀ i v, lget ls i = some v → la[i]? = some (.val (conc E v))
def Sat (X : Option (Nat × (Nat → Int32))) (M : MD) (d N1 : Nat) (Q : Option AV → ST → Prop) (pc : Nat) (ls : LV) (st : List AV) (σ : ST) : Prop :=
  ∀ (E : EV), XE X E → ∀ (p : Program) (e : Env) (s : State) (m : MethodId) (args : Array Value) (below : List Frame) (meth : Method) (c : Code) (R : Room) (Z : State → Prop) (N0 : Nat),
    Ctx E M d N0 N1 R p s m meth c args → RetOk E M N0 N1 Q R Z p e s m args below meth c → ∀ (H : Heap) (locs : List Loc) (la : Array Slot), Rep E H σ → va_S (eA E) s.heap H locs → HL E la (mY M).2.2.1 ls → N0 ≤ σ.2.2.1 → σ.2.2.1 ≤ N1 →
    (∀ a ∈ st, vok σ.2.2.1 a) → (∀ i a, lget ls i = some a → vok σ.2.2.1 a) → W p (eL E) e R s m args below meth c H locs (σ.2.2.1 - N0) (sz σ.2.2.1 - sz N0) Z (F0 m pc la (st.map (conc E)))
/-- a pool's entries stand in the words -/
def okF (own : String) (e : Nat × (Nat × Nat × Bool × Nat)) : Bool := match e with
  | (idx, ci, j, nest, pl) => match Nat.beq ci 100 with
    | true => decide (lw_tbl[pl]? = some (.fieldLink own idx "java/lang/String" (if j = 0 then "value" else "coder") (if j = 0 then "[B" else "B"))) && !nest && decide (j < 2)
    | false => match vwCl[ci]? with
      | none => false
      | some (C, T, N) => decide (j < N) && (if nest then decide (lw_tbl[pl]? = some (.fieldLinkNest own idx C (T j).2.1 (T j).2.2.1 "OutcropAges")) else decide (lw_tbl[pl]? = some (.fieldLink own idx C (T j).2.1 (T j).2.2.1)) && goodWord (.fieldLink own idx C (T j).2.1 (T j).2.2.1)) && decide ((T j).1 = C) && (nest || decide (C = own))
def pl_ (l : List Nat) (i : Nat) : Nat := nthD l i 99999
def okY (Y : Yd) (na : Nat) : Bool := plainName Y.1.cls && decide (Y.1.cls ≠ "java/lang/invoke/MethodHandle") && decide (Y.1.cls ≠ "java/lang/invoke/VarHandle") && decide ((parseMethodDescriptor Y.1.desc).map (fun d => d.parameters.length) = some na) && decide (Y.2.2.1 ≤ 21)
/-- of a called method, but its code -/
def okM (own : String) (e : Nat × (Nat × Nat × Nat × Yd × List Nat)) : Bool := match e with
  | (idx, kd, na, ci, Y, pl) => match kd with
    | 0 => okY Y na && (match vwCl[ci]? with | some (C, _, _) => decide (Y.1.cls = C) | none => false) && decide (lw_tbl[pl_ pl 0]? = some (.methodLink own idx Y.1)) && decide (lw_tbl[pl_ pl 1]? = some (.instanceMethod Y.1)) && decide (lw_tbl[pl_ pl 2]? = some (.selects Y.1.cls Y.1 Y.1)) && decide (lw_tbl[pl_ pl 3]? = some (.initialized Y.1.cls))
    | 10 => okY Y na && decide (Y.1.cls = "java/lang/String") && decide (lw_tbl[pl_ pl 0]? = some (.methodLink own idx Y.1)) && decide (lw_tbl[pl_ pl 1]? = some (.instanceMethod Y.1)) && decide (lw_tbl[pl_ pl 2]? = some (.selects Y.1.cls Y.1 Y.1)) && decide (lw_tbl[pl_ pl 3]? = some (.initialized Y.1.cls))
    | 1 => okY Y na && (match vwCl[ci]? with | some (C, _, _) => decide (Y.1.cls = C) | none => false) && decide (lw_tbl[pl_ pl 0]? = some (.methodLinkNest own idx Y.1 "OutcropAges")) && decide (lw_tbl[pl_ pl 1]? = some (.instanceMethod Y.1)) && decide (lw_tbl[pl_ pl 2]? = some (.selects Y.1.cls Y.1 Y.1)) && decide (lw_tbl[pl_ pl 3]? = some (.initialized Y.1.cls))
    | 2 => okY Y na && decide (lw_tbl[pl_ pl 0]? = some (.methodLink own idx Y.1)) && decide (lw_tbl[pl_ pl 1]? = some (.static Y.1)) && decide (lw_tbl[pl_ pl 2]? = some (.initialized Y.1.cls))
    | 3 => okY Y na && decide (lw_tbl[pl_ pl 0]? = some (.methodLinkNest own idx Y.1 "OutcropAges")) && decide (lw_tbl[pl_ pl 1]? = some (.static Y.1)) && decide (lw_tbl[pl_ pl 2]? = some (.initialized Y.1.cls))
    | 4 => okY Y na && decide (Y.1.name = "<init>") && decide (Y.2.2.2 = none) && decide (lw_tbl[pl_ pl 0]? = some (.methodLink own idx Y.1)) && decide (lw_tbl[pl_ pl 1]? = some (.instanceMethod Y.1)) && decide (lw_tbl[pl_ pl 2]? = some (.initialized Y.1.cls))
    | 5 => okY Y na && decide (Y.1.name = "<init>") && decide (Y.2.2.2 = none) && decide (lw_tbl[pl_ pl 0]? = some (.methodLinkNest own idx Y.1 "OutcropAges")) && decide (lw_tbl[pl_ pl 1]? = some (.instanceMethod Y.1)) && decide (lw_tbl[pl_ pl 2]? = some (.initialized Y.1.cls))
    | 6 => decide (na = 0) && decide (lw_tbl[pl_ pl 0]? = some (.methodLink own idx objectInit)) && decide (lw_tbl[pl_ pl 1]? = some (.instanceMethod objectInit)) && decide (lw_tbl[pl_ pl 2]? = some (.code objectInit ⟨#[0xb1]⟩ 1 none))
    | 7 => decide (lw_tbl[pl_ pl 0]? = some (.methodLink own idx Lib.Math.max.name)) && decide (lw_tbl[pl_ pl 1]? = some (.static Lib.Math.max.name)) && decide (lw_tbl[pl_ pl 2]? = some (.initialized "java/lang/Math")) && decide (lw_tbl[pl_ pl 3]? = some (.code Lib.Math.max.name Lib.Math.max.code 2 (some .int)))
    | 8 => decide (lw_tbl[pl_ pl 0]? = some (.methodLink own idx Lib.Math.min.name)) && decide (lw_tbl[pl_ pl 1]? = some (.static Lib.Math.min.name)) && decide (lw_tbl[pl_ pl 2]? = some (.initialized "java/lang/Math")) && decide (lw_tbl[pl_ pl 3]? = some (.code Lib.Math.min.name Lib.Math.min.code 2 (some .int)))
    | 9 => decide (lw_tbl[pl_ pl 0]? = some (.methodLink own idx arraycopyName)) && decide (lw_tbl[pl_ pl 1]? = some (.native arraycopyName)) && decide (lw_tbl[pl_ pl 2]? = some (.static arraycopyName)) && decide (lw_tbl[pl_ pl 3]? = some (.initialized "java/lang/System"))
    | _ => false
def okC (own : String) (e : Nat × (Nat × List Nat)) : Bool := match e with
  | (idx, ci, pl) => match vwCl[ci]? with
    | none => false
    | some (C, _, N) => decide (lw_tbl[pl_ pl 0]? = some (.classLink own idx C)) && decide (lw_tbl[pl_ pl 1]? = some (.instantiable C N)) && decide (lw_tbl[pl_ pl 2]? = some (.initialized C))
def okS (own : String) (e : Nat × (Nat × Bool × Nat)) : Bool := match e with
  | (idx, t, nest, pl) => match Nat.beq t 59 with
    | true => !nest && decide (lw_tbl[pl]? = some (.fieldLink own idx "java/lang/String" "COMPACT_STRINGS" "Z"))
    | false => decide (60 ≤ t) && decide (t ≤ 64) && (if nest then decide (lw_tbl[pl]? = some (.fieldLinkNest own idx (nthD stN (t - 60) ("", "")).1 (nthD stN (t - 60) ("", "")).2 "[I" "OutcropAges")) else decide (lw_tbl[pl]? = some (.fieldLink own idx (nthD stN (t - 60) ("", "")).1 (nthD stN (t - 60) ("", "")).2 "[I")))
def okL (own : String) (e : Nat × (Int64 × Nat)) : Bool := match e with
  | (idx, v, pl) => decide (lw_tbl[pl]? = some (.constantLong own idx v)) && goodWord (.constantLong own idx v)
def okI (own : String) (e : Nat × (Int32 × Nat)) : Bool := match e with
  | (idx, v, pl) => decide (lw_tbl[pl]? = some (.constant own idx v)) && goodWord (.constant own idx v)
def okT (own : String) (e : Nat × Nat) : Bool := decide (own = RX6) && decide (e.2 < 9) && decide (nthD sidx e.2 0 = e.1)
/-- the code of the methods that a pool names -/
def okW (pm : List (Nat × (Nat × Nat × Nat × Yd × List Nat))) : Prop := ∀ e ∈ pm, e.2.1 ≤ 5 ∨ e.2.1 = 10 → ywd e.2.2.2.2.1 ∈ gw
def okP (P : Pool) : Prop := P.2.1.all (okF P.1) = true ∧ P.2.2.1.all (okM P.1) = true ∧ okW P.2.2.1 ∧ P.2.2.2.1.all (okC P.1) = true ∧ P.2.2.2.2.1.all (okS P.1) = true ∧ P.2.2.2.2.2.1.all (okL P.1) = true ∧ P.2.2.2.2.2.2.1.all (okI P.1) = true ∧ P.2.2.2.2.2.2.2.all (okT P.1) = true
def okE (M : MD) : Bool := plainName (mY M).1.cls && decide ((mP M).1 = (mY M).1.cls) && (!mI M || decide ((mY M).1.name = "<init>"))
def okD (M : MD) : Prop := okP (mP M) ∧ wfc (mC M) = true ∧ (mC M).all chk = true ∧ decT (mY M).2.1 (mC M) = true ∧ okE M = true
/-- the locals at a method's start -/
def mkL : List AV → LV
  | [] => []
  | .inr (.inl x) :: r => some (vl x) :: none :: mkL r
  | a :: r => some a :: mkL r
def padL : Nat → LV → LV
  | 0, _ => []
  | n + 1, [] => none :: padL n []
  | n + 1, a :: r => a :: padL n r
end
section
/-! SOUNDNESS, 1: locals and operand stack -/
def toL (E : EV) : Nat → LV → List (Nat × Value)
  | _, [] => []
  | i, none :: r => toL E (i + 1) r
  | i, some v :: r => (i, conc E v) :: toL E (i + 1) r
theorem mem_toL {E : EV} : ∀ (ls : LV) (b : Nat) (q : Nat × Value), q ∈ toL E b ls → ∃ i v, lget ls i = some v ∧ q = (b + i, conc E v)
  | [], b, q, h => by simp [toL] at h
  | none :: r, b, q, h => by
    obtain ⟨i, v, h1, h2⟩ := mem_toL r (b + 1) q h
    exact ⟨i + 1, v, h1, by rw [h2]; congr 1; omega⟩
  | some w :: r, b, q, h => by
    rcases List.mem_cons.mp h with h | h
    · exact ⟨0, w, rfl, h⟩
    · obtain ⟨i, v, h1, h2⟩ := mem_toL r (b + 1) q h
      exact ⟨i + 1, v, h1, by rw [h2]; congr 1; omega⟩
theorem toL_mem {E : EV} : ∀ (ls : LV) (b i : Nat) (v : AV), lget ls i = some v → (b + i, conc E v) ∈ toL E b ls
  | [], b, i, v, h => by simp [lget] at h
  | none :: r, b, 0, v, h => by simp [lget] at h
  | some w :: r, b, 0, v, h => by
    simp only [lget, Option.some.injEq] at h
    subst h
    exact List.mem_cons_self
  | none :: r, b, i + 1, v, h => by
    have := toL_mem (E := E) r (b + 1) i v h
    rw [show b + (i + 1) = b + 1 + i by omega]
    exact this
  | some w :: r, b, i + 1, v, h => by
    have := toL_mem (E := E) r (b + 1) i v h
    rw [show b + (i + 1) = b + 1 + i by omega]
    exact List.mem_cons_of_mem _ this
theorem HL.has {E : EV} {la : Array Slot} {nL : Nat} {ls : LV} (h : HL E la nL ls) : lv_has la nL (toL E 0 ls) := by
  refine ⟨h.1, h.2.1, fun q hq => ?_⟩
  obtain ⟨i, v, h1, rfl⟩ := mem_toL ls 0 q hq
  simpa using h.2.2.2 i v h1
theorem lset_len : ∀ (ls : LV) (i : Nat) (v : Option AV), (lset ls i v).length = ls.length
  | [], _, _ => rfl
  | _ :: _, 0, _ => rfl
  | _ :: l, i + 1, v => by simp [lset, lset_len l i v]
theorem lget_lset : ∀ (ls : LV) (i j : Nat) (v : Option AV), i < ls.length → lget (lset ls i v) j = if j = i then v else lget ls j
  | [], i, j, v, h => by simp at h
  | a :: l, 0, 0, v, h => by simp [lset, lget]
  | a :: l, 0, j + 1, v, h => by simp [lset, lget]
  | a :: l, i + 1, 0, v, h => by simp [lset, lget]
  | a :: l, i + 1, j + 1, v, h => by
    have := lget_lset l i j v (by simpa using h)
    simp only [lset, lget, this]
    by_cases e : j = i <;> simp [e]
theorem lget_lt : ∀ (ls : LV) (i : Nat) (v : AV), lget ls i = some v → i < ls.length
  | [], i, v, h => by simp [lget] at h
  | _ :: _, 0, _, _ => by simp
  | _ :: l, i + 1, v, h => by simpa using lget_lt l i v h
theorem conc_cat (E : EV) (v : AV) : (conc E v).category = avc v := by
  rcases v with x | x | (_ | ⟨t, k⟩) <;> rfl
theorem HL.set1 {E : EV} {la : Array Slot} {nL : Nat} {ls : LV} {i : Nat} {v : AV} (hl : ls.length = nL) (hp : plong ls i = false) (hi : i < ls.length)
    (h : lv_has la nL ((i, conc E v) :: (toL E 0 ls).filter (fun q => !(q.1 == i) && !(q.1 + 1 == i && q.2.category == 2)))) : HL E la nL (lset ls i (some v)) := by
  refine ⟨h.1, h.2.1, by rw [lset_len]; exact hl, fun j w hw => ?_⟩
  rw [lget_lset ls i j _ hi] at hw
  by_cases e : j = i
  · rw [if_pos e] at hw
    cases hw
    subst e
    exact h.2.2 (j, conc E v) List.mem_cons_self
  · rw [if_neg e] at hw
    have hm := toL_mem (E := E) ls 0 j w hw
    rw [Nat.zero_add] at hm
    refine h.2.2 (j, conc E w) (List.mem_cons_of_mem _ (List.mem_filter.mpr ⟨hm, ?_⟩))
    have h2 : ¬ (j + 1 = i ∧ (conc E w).category = 2) := by
      rintro ⟨h3, h4⟩
      subst h3
      rw [conc_cat] at h4
      rcases w with x | x | x
      · simp [avc] at h4
      · simp [plong, hw] at hp
      · simp [avc] at h4
    simp [e]
    exact Decidable.not_and_iff_not_or_not.mp h2
theorem HL.set2 {E : EV} {la : Array Slot} {nL : Nat} {ls : LV} {i : Nat} {x : Int64} (hl : ls.length = nL) (hp : plong ls i = false) (hi : i + 1 < ls.length)
    (h : lv_has la nL ((i, conc E (vl x)) :: (toL E 0 ls).filter (fun q => !(q.1 == i) && (!(q.1 == i + 1) && !(q.1 + 1 == i && q.2.category == 2))))) : HL E la nL (lset (lset ls i (some (vl x))) (i + 1) none) := by
  refine ⟨h.1, h.2.1, by rw [lset_len, lset_len]; exact hl, fun j w hw => ?_⟩
  rw [lget_lset _ (i + 1) j _ (by rw [lset_len]; exact hi), lget_lset ls i j _ (by omega)] at hw
  by_cases e1 : j = i + 1
  · rw [if_pos e1] at hw
    cases hw
  rw [if_neg e1] at hw
  by_cases e : j = i
  · rw [if_pos e] at hw
    cases hw
    subst e
    exact h.2.2 (j, conc E (vl x)) List.mem_cons_self
  · rw [if_neg e] at hw
    have hm := toL_mem (E := E) ls 0 j w hw
    rw [Nat.zero_add] at hm
    refine h.2.2 (j, conc E w) (List.mem_cons_of_mem _ (List.mem_filter.mpr ⟨hm, ?_⟩))
    have h2 : ¬ (j + 1 = i ∧ (conc E w).category = 2) := by
      rintro ⟨h3, h4⟩
      subst h3
      rw [conc_cat] at h4
      rcases w with x | x | x
      · simp [avc] at h4
      · simp [plong, hw] at hp
      · simp [avc] at h4
    simp [e, e1]
    exact Decidable.not_and_iff_not_or_not.mp h2
theorem sst_some {ls : LV} {i : Nat} {v : AV} {r : List AV} {q : LV × List AV} (h : sst ls i v r = some q) : plong ls i = false ∧ i < ls.length ∧ q = (lset ls i (some v), r) := by
  unfold sst at h
  cases hp : plong ls i with
  | true => simp [hp] at h
  | false =>
    simp only [hp] at h
    cases hb : Nat.ble ls.length i with
    | true => simp [hb] at h
    | false =>
      simp only [hb, Option.some.injEq] at h
      refine ⟨rfl, ?_, h.symm⟩
      rw [← Bool.not_eq_true, Nat.ble_eq] at hb
      omega
section SOUND1
variable {E : EV} {p : Program} {e : Env} {R : Room} {s : State} {m : MethodId} {args : Array Value} {below : List Frame} {meth : Method} {c : Code} {H : Heap} {locs : List Loc} {cells slots : Nat} {Z : State → Prop} {cc : ByteArray} {pc len nL : Nat} {la : Array Slot} {tg : List Nat} {cv : Int32} {ls ls1 : LV} {st st1 : List AV} {ins : Instr}
set_option maxHeartbeats 4000000 in
set_option maxRecDepth 10000 in
theorem sfun_sound (hx : p.tables.exec = Jvm.exec) (hb : c.code = cc) (hdg : decode cc pc = .ok (ins, len)) (hk : chk (pc, ins, len, tg, cv) = true) (hs : sfun ins tg cv ls st = some (ls1, st1)) (hL : HL E la nL ls)
    (kk : ∀ la1, HL E la1 nL ls1 → W p (eL E) e R s m args below meth c H locs cells slots Z (F0 m (pc + len) la1 (st1.map (conc E)))) : W p (eL E) e R s m args below meth c H locs cells slots Z (F0 m pc la (st.map (conc E))) := by
  have hln := hL.2.2.1
  cases ins
  case iconst n =>
    simp only [chk, Bool.and_eq_true, decide_eq_true_eq] at hk
    obtain ⟨h1, rfl⟩ := hk
    cases hs
    exact lv_iconst hx hb hdg h1 (kk la hL)
  case bipush n =>
    simp only [chk, Bool.and_eq_true, decide_eq_true_eq] at hk
    obtain ⟨h1, rfl⟩ := hk
    cases hs
    exact lv_bipush hx hb hdg h1 (kk la hL)
  case sipush n =>
    simp only [chk, Bool.and_eq_true, decide_eq_true_eq] at hk
    obtain ⟨h1, rfl⟩ := hk
    cases hs
    exact lv_sipush hx hb hdg h1 (kk la hL)
  case lconst n =>
    simp only [chk, Bool.and_eq_true, decide_eq_true_eq] at hk
    obtain ⟨h1, rfl⟩ := hk
    cases hs
    exact lv_lconst hx hb hdg (by rw [h1]; rfl) (kk la hL)
  case iload_n i =>
    simp only [chk, Bool.and_eq_true, decide_eq_true_eq] at hk
    obtain ⟨h1, rfl⟩ := hk
    simp only [sfun] at hs
    split at hs
    · rename_i hg
      cases hs
      have hv := hL.2.2.2 _ _ hg
      exact lv_iload_n hx hb hdg h1 hv (kk la hL)
    · cases hs
  case iload i =>
    simp only [chk, Bool.and_eq_true, decide_eq_true_eq] at hk
    obtain ⟨h1, rfl⟩ := hk
    simp only [sfun] at hs
    split at hs
    · rename_i hg
      cases hs
      have hv := hL.2.2.2 _ _ hg
      exact lv_iload hx hb hdg (by rw [h1]; exact hv) (kk la hL)
    · cases hs
  case lload_n i =>
    simp only [chk, Bool.and_eq_true, decide_eq_true_eq] at hk
    obtain ⟨h1, rfl⟩ := hk
    simp only [sfun] at hs
    split at hs
    · rename_i hg
      cases hs
      have hv := hL.2.2.2 _ _ hg
      exact lv_lload_n hx hb hdg h1 hv (kk la hL)
    · cases hs
  case aload_n i =>
    simp only [chk, Bool.and_eq_true, decide_eq_true_eq] at hk
    obtain ⟨h1, rfl⟩ := hk
    simp only [sfun] at hs
    split at hs
    · rename_i hg
      cases hs
      have hv := hL.2.2.2 _ _ hg
      exact lv_aload_n hx hb hdg h1 hv (kk la hL)
    · cases hs
  case aload i =>
    simp only [chk, Bool.and_eq_true, decide_eq_true_eq] at hk
    obtain ⟨h1, rfl⟩ := hk
    simp only [sfun] at hs
    split at hs
    · rename_i hg
      cases hs
      have hv := hL.2.2.2 _ _ hg
      exact lv_aload hx hb hdg (by rw [h1]; exact hv) (kk la hL)
    · cases hs
  case istore_n i =>
    simp only [chk, Bool.and_eq_true, decide_eq_true_eq] at hk
    obtain ⟨h1, rfl⟩ := hk
    simp only [sfun] at hs
    split at hs
    · obtain ⟨g1, g2, g3⟩ := sst_some hs
      cases g3
      exact lv_istore_n hx hb hdg h1 hL.has (by omega) rfl (fun la1 h => kk la1 (HL.set1 hln g1 g2 h))
    · cases hs
  case astore_n i =>
    simp only [chk, Bool.and_eq_true, decide_eq_true_eq] at hk
    obtain ⟨h1, rfl⟩ := hk
    simp only [sfun] at hs
    split at hs
    · obtain ⟨g1, g2, g3⟩ := sst_some hs
      cases g3
      exact lv_astore_n hx hb hdg h1 hL.has (by omega) rfl (fun la1 h => kk la1 (HL.set1 hln g1 g2 h))
    · cases hs
  case istore i =>
    simp only [chk, Bool.and_eq_true, decide_eq_true_eq] at hk
    obtain ⟨h1, rfl⟩ := hk
    simp only [sfun] at hs
    split at hs
    · obtain ⟨g1, g2, g3⟩ := sst_some hs
      cases g3
      exact lv_istore hx hb hdg  hL.has (by rw [h1]; omega) rfl (fun la1 h => kk la1 (HL.set1 hln g1 g2 (by rw [h1] at h; exact h)))
    · cases hs
  case lstore_n i =>
    simp only [chk, Bool.and_eq_true, decide_eq_true_eq] at hk
    obtain ⟨h1, rfl⟩ := hk
    simp only [sfun] at hs
    split at hs
    · split at hs
      · cases hs
      · rename_i hp
        split at hs
        · cases hs
        · rename_i hb2
          cases hs
          have g2 : h0 tg + 1 < ls.length := by
            rw [← Bool.not_eq_true, Nat.ble_eq] at hb2
            omega
          exact lv_lstore_n hx hb hdg h1 hL.has (by omega) rfl (fun la1 h => kk la1 (HL.set2 hln hp g2 h))
    · cases hs
  case iinc i n =>
    simp only [chk, Bool.and_eq_true, decide_eq_true_eq] at hk
    obtain ⟨⟨h1, h2⟩, rfl⟩ := hk
    subst h1
    simp only [sfun] at hs
    split at hs
    · rename_i x hg
      obtain ⟨g1, g2, g3⟩ := sst_some hs
      cases g3
      obtain ⟨k0, hk0⟩ := List.getElem?_of_mem (toL_mem (E := E) ls 0 _ _ hg)
      rw [Nat.zero_add] at hk0
      exact lv_iinc (k := k0) (x := x) (v := x + cv) hx hb hdg hL.has hk0 (by rw [h2]) (by omega) rfl (fun la1 h => kk la1 (HL.set1 hln g1 g2 h))
    · cases hs
  case iadd =>
    simp only [chk, decide_eq_true_eq] at hk
    subst hk
    simp only [sfun] at hs
    split at hs
    · cases hs
      exact lv_iadd hx hb hdg (kk la hL)
    · cases hs
  case isub =>
    simp only [chk, decide_eq_true_eq] at hk
    subst hk
    simp only [sfun] at hs
    split at hs
    · cases hs
      exact lv_isub hx hb hdg (kk la hL)
    · cases hs
  case imul =>
    simp only [chk, decide_eq_true_eq] at hk
    subst hk
    simp only [sfun] at hs
    split at hs
    · cases hs
      exact lv_imul hx hb hdg (kk la hL)
    · cases hs
  case iand =>
    simp only [chk, decide_eq_true_eq] at hk
    subst hk
    simp only [sfun] at hs
    split at hs
    · cases hs
      exact lv_iand hx hb hdg (kk la hL)
    · cases hs
  case ior =>
    simp only [chk, decide_eq_true_eq] at hk
    subst hk
    simp only [sfun] at hs
    split at hs
    · cases hs
      exact lv_ior hx hb hdg (kk la hL)
    · cases hs
  case ixor =>
    simp only [chk, decide_eq_true_eq] at hk
    subst hk
    simp only [sfun] at hs
    split at hs
    · cases hs
      exact lv_ixor hx hb hdg (kk la hL)
    · cases hs
  case ishl =>
    simp only [chk, decide_eq_true_eq] at hk
    subst hk
    simp only [sfun] at hs
    split at hs
    · cases hs
      exact lv_ishl hx hb hdg (kk la hL)
    · cases hs
  case ishr =>
    simp only [chk, decide_eq_true_eq] at hk
    subst hk
    simp only [sfun] at hs
    split at hs
    · cases hs
      exact lv_ishr hx hb hdg (kk la hL)
    · cases hs
  case land =>
    simp only [chk, decide_eq_true_eq] at hk
    subst hk
    simp only [sfun] at hs
    split at hs
    · cases hs
      exact lv_land hx hb hdg (kk la hL)
    · cases hs
  case lor =>
    simp only [chk, decide_eq_true_eq] at hk
    subst hk
    simp only [sfun] at hs
    split at hs
    · cases hs
      exact lv_lor hx hb hdg (kk la hL)
    · cases hs
  case iushr =>
    simp only [chk, decide_eq_true_eq] at hk
    subst hk
    simp only [sfun] at hs
    split at hs
    · cases hs
      exact lv_iushr hx hb hdg rfl (kk la hL)
    · cases hs
  case lshl =>
    simp only [chk, decide_eq_true_eq] at hk
    subst hk
    simp only [sfun] at hs
    split at hs
    · cases hs
      exact lv_lshl hx hb hdg rfl (kk la hL)
    · cases hs
  case lshr =>
    simp only [chk, decide_eq_true_eq] at hk
    subst hk
    simp only [sfun] at hs
    split at hs
    · cases hs
      exact lv_lshr hx hb hdg rfl (kk la hL)
    · cases hs
  case i2l =>
    simp only [chk, decide_eq_true_eq] at hk
    subst hk
    simp only [sfun] at hs
    split at hs
    · cases hs
      exact lv_i2l hx hb hdg rfl (kk la hL)
    · cases hs
  case l2i =>
    simp only [chk, decide_eq_true_eq] at hk
    subst hk
    simp only [sfun] at hs
    split at hs
    · cases hs
      exact lv_l2i hx hb hdg rfl (kk la hL)
    · cases hs
  case i2c =>
    simp only [chk, decide_eq_true_eq] at hk
    subst hk
    simp only [sfun] at hs
    split at hs
    · cases hs
      exact lv_i2c hx hb hdg rfl (kk la hL)
    · cases hs
  case dup =>
    simp only [chk, decide_eq_true_eq] at hk
    subst hk
    simp only [sfun] at hs
    split at hs
    · cases hs
      exact lv_dup hx hb hdg rfl (kk la hL)
    · rename_i q r
      cases hs
      exact lv_dup (va := conc E (.inr (.inr q))) hx hb hdg (by rw [conc_cat]; rfl) (kk la hL)
    · cases hs
  case pop =>
    simp only [chk, decide_eq_true_eq] at hk
    subst hk
    simp only [sfun] at hs
    split at hs
    · cases hs
      exact lv_pop hx hb hdg rfl (kk la hL)
    · rename_i q r
      cases hs
      exact lv_pop (va := conc E (.inr (.inr q))) hx hb hdg (by rw [conc_cat]; rfl) (kk la hL)
    · cases hs
  case dup2 =>
    simp only [chk, decide_eq_true_eq] at hk
    subst hk
    simp only [sfun] at hs
    split at hs
    · cases hs
      exact lv_dup2_11 hx hb hdg rfl rfl (kk la hL)
    · rename_i x q r
      cases hs
      exact lv_dup2_11 (va := .int x) (vb := conc E (.inr (.inr q))) hx hb hdg rfl (by rw [conc_cat]; rfl) (kk la hL)
    · cases hs
  all_goals (simp only [sfun] at hs; cases hs)
set_option maxHeartbeats 4000000 in
theorem sfun_ok {n : Nat} (hs : sfun ins tg cv ls st = some (ls1, st1)) (h1 : ∀ a ∈ st, vok n a) (h2 : ∀ i a, lget ls i = some a → vok n a) : (∀ a ∈ st1, vok n a) ∧ ∀ i a, lget ls1 i = some a → vok n a := by
  have hset : ∀ (l : LV) (i : Nat) (v : Option AV), (∀ i a, lget l i = some a → vok n a) → (∀ a, v = some a → vok n a) → ∀ j a, lget (lset l i v) j = some a → vok n a := by
    intro l i v g1 g2 j a hj
    by_cases hi : i < l.length
    · rw [lget_lset l i j v hi] at hj
      by_cases e : j = i
      · rw [if_pos e] at hj; exact g2 a hj
      · rw [if_neg e] at hj; exact g1 j a hj
    · have : ∀ (l : LV) (i : Nat), ¬ i < l.length → lset l i v = l := by
        intro l
        induction l with
        | nil => intro i _; rfl
        | cons b l ih =>
          intro i hi
          cases i with
          | zero => simp at hi
          | succ i => simp only [lset]; rw [ih i (by simpa using hi)]
      rw [this l i hi] at hj
      exact g1 j a hj
  have hcons : ∀ (a : AV) (r : List AV), vok n a → (∀ b ∈ r, vok n b) → ∀ b ∈ a :: r, vok n b := fun a r g1 g2 b hb => (List.mem_cons.mp hb).elim (fun h => h ▸ g1) (g2 b)
  cases ins
  case iconst _ =>
    cases hs
    exact ⟨hcons _ _ trivial h1, h2⟩
  case bipush _ =>
    cases hs
    exact ⟨hcons _ _ trivial h1, h2⟩
  case sipush _ =>
    cases hs
    exact ⟨hcons _ _ trivial h1, h2⟩
  case lconst _ =>
    cases hs
    exact ⟨hcons _ _ trivial h1, h2⟩
  case iload_n _ =>
    simp only [sfun] at hs
    split at hs
    · cases hs; exact ⟨hcons _ _ trivial h1, h2⟩
    · cases hs
  case iload _ =>
    simp only [sfun] at hs
    split at hs
    · cases hs; exact ⟨hcons _ _ trivial h1, h2⟩
    · cases hs
  case lload_n _ =>
    simp only [sfun] at hs
    split at hs
    · cases hs; exact ⟨hcons _ _ trivial h1, h2⟩
    · cases hs
  case aload_n _ =>
    simp only [sfun] at hs
    split at hs
    · rename_i hg
      cases hs; exact ⟨hcons _ _ (h2 _ _ hg) h1, h2⟩
    · cases hs
  case aload _ =>
    simp only [sfun] at hs
    split at hs
    · rename_i hg
      cases hs; exact ⟨hcons _ _ (h2 _ _ hg) h1, h2⟩
    · cases hs
  case istore_n _ =>
    simp only [sfun] at hs
    split at hs
    · obtain ⟨-, -, g3⟩ := sst_some hs
      cases g3
      exact ⟨fun a h => h1 a (List.mem_cons_of_mem _ h), hset _ _ _ h2 (fun a h => by cases h; first | exact trivial | exact h1 _ List.mem_cons_self)⟩
    · cases hs
  case istore _ =>
    simp only [sfun] at hs
    split at hs
    · obtain ⟨-, -, g3⟩ := sst_some hs
      cases g3
      exact ⟨fun a h => h1 a (List.mem_cons_of_mem _ h), hset _ _ _ h2 (fun a h => by cases h; first | exact trivial | exact h1 _ List.mem_cons_self)⟩
    · cases hs
  case astore_n _ =>
    simp only [sfun] at hs
    split at hs
    · obtain ⟨-, -, g3⟩ := sst_some hs
      cases g3
      exact ⟨fun a h => h1 a (List.mem_cons_of_mem _ h), hset _ _ _ h2 (fun a h => by cases h; first | exact trivial | exact h1 _ List.mem_cons_self)⟩
    · cases hs
  case lstore_n _ =>
    simp only [sfun] at hs
    split at hs
    · split at hs
      · cases hs
      · split at hs
        · cases hs
        · cases hs
          exact ⟨fun a h => h1 a (List.mem_cons_of_mem _ h), hset _ _ _ (hset _ _ _ h2 (fun a h => by cases h; trivial)) (fun a h => by cases h)⟩
    · cases hs
  case iinc _ _ =>
    simp only [sfun] at hs
    split at hs
    · obtain ⟨-, -, g3⟩ := sst_some hs
      cases g3
      exact ⟨h1, hset _ _ _ h2 (fun a h => by cases h; trivial)⟩
    · cases hs
  case iadd =>
    simp only [sfun] at hs
    split at hs
    · cases hs; exact ⟨hcons _ _ trivial (fun a h => h1 a (List.mem_cons_of_mem _ (List.mem_cons_of_mem _ h))), h2⟩
    · cases hs
  case isub =>
    simp only [sfun] at hs
    split at hs
    · cases hs; exact ⟨hcons _ _ trivial (fun a h => h1 a (List.mem_cons_of_mem _ (List.mem_cons_of_mem _ h))), h2⟩
    · cases hs
  case imul =>
    simp only [sfun] at hs
    split at hs
    · cases hs; exact ⟨hcons _ _ trivial (fun a h => h1 a (List.mem_cons_of_mem _ (List.mem_cons_of_mem _ h))), h2⟩
    · cases hs
  case iand =>
    simp only [sfun] at hs
    split at hs
    · cases hs; exact ⟨hcons _ _ trivial (fun a h => h1 a (List.mem_cons_of_mem _ (List.mem_cons_of_mem _ h))), h2⟩
    · cases hs
  case ior =>
    simp only [sfun] at hs
    split at hs
    · cases hs; exact ⟨hcons _ _ trivial (fun a h => h1 a (List.mem_cons_of_mem _ (List.mem_cons_of_mem _ h))), h2⟩
    · cases hs
  case ixor =>
    simp only [sfun] at hs
    split at hs
    · cases hs; exact ⟨hcons _ _ trivial (fun a h => h1 a (List.mem_cons_of_mem _ (List.mem_cons_of_mem _ h))), h2⟩
    · cases hs
  case ishl =>
    simp only [sfun] at hs
    split at hs
    · cases hs; exact ⟨hcons _ _ trivial (fun a h => h1 a (List.mem_cons_of_mem _ (List.mem_cons_of_mem _ h))), h2⟩
    · cases hs
  case ishr =>
    simp only [sfun] at hs
    split at hs
    · cases hs; exact ⟨hcons _ _ trivial (fun a h => h1 a (List.mem_cons_of_mem _ (List.mem_cons_of_mem _ h))), h2⟩
    · cases hs
  case land =>
    simp only [sfun] at hs
    split at hs
    · cases hs; exact ⟨hcons _ _ trivial (fun a h => h1 a (List.mem_cons_of_mem _ (List.mem_cons_of_mem _ h))), h2⟩
    · cases hs
  case lor =>
    simp only [sfun] at hs
    split at hs
    · cases hs; exact ⟨hcons _ _ trivial (fun a h => h1 a (List.mem_cons_of_mem _ (List.mem_cons_of_mem _ h))), h2⟩
    · cases hs
  case iushr =>
    simp only [sfun] at hs
    split at hs
    · cases hs; exact ⟨hcons _ _ trivial (fun a h => h1 a (List.mem_cons_of_mem _ (List.mem_cons_of_mem _ h))), h2⟩
    · cases hs
  case lshl =>
    simp only [sfun] at hs
    split at hs
    · cases hs; exact ⟨hcons _ _ trivial (fun a h => h1 a (List.mem_cons_of_mem _ (List.mem_cons_of_mem _ h))), h2⟩
    · cases hs
  case lshr =>
    simp only [sfun] at hs
    split at hs
    · cases hs; exact ⟨hcons _ _ trivial (fun a h => h1 a (List.mem_cons_of_mem _ (List.mem_cons_of_mem _ h))), h2⟩
    · cases hs
  case i2l =>
    simp only [sfun] at hs
    split at hs
    · cases hs; exact ⟨hcons _ _ trivial (fun a h => h1 a (List.mem_cons_of_mem _ h)), h2⟩
    · cases hs
  case l2i =>
    simp only [sfun] at hs
    split at hs
    · cases hs; exact ⟨hcons _ _ trivial (fun a h => h1 a (List.mem_cons_of_mem _ h)), h2⟩
    · cases hs
  case i2c =>
    simp only [sfun] at hs
    split at hs
    · cases hs; exact ⟨hcons _ _ trivial (fun a h => h1 a (List.mem_cons_of_mem _ h)), h2⟩
    · cases hs
  case dup =>
    simp only [sfun] at hs
    split at hs
    · cases hs; exact ⟨hcons _ _ trivial h1, h2⟩
    · cases hs; exact ⟨hcons _ _ (h1 _ List.mem_cons_self) h1, h2⟩
    · cases hs
  case pop =>
    simp only [sfun] at hs
    split at hs
    · cases hs; exact ⟨fun a h => h1 a (List.mem_cons_of_mem _ h), h2⟩
    · cases hs; exact ⟨fun a h => h1 a (List.mem_cons_of_mem _ h), h2⟩
    · cases hs
  case dup2 =>
    simp only [sfun] at hs
    split at hs
    · cases hs; exact ⟨hcons _ _ trivial (hcons _ _ trivial h1), h2⟩
    · cases hs; exact ⟨hcons _ _ trivial (hcons _ _ (h1 _ (List.mem_cons_of_mem _ List.mem_cons_self)) h1), h2⟩
    · cases hs
  all_goals (simp only [sfun] at hs; cases hs)
end SOUND1
end
section
/-! SOUNDNESS, 2: facts of the classes, by computation -/
theorem iX0 : ∀ w ∈ u_ws RX0 TX0 2, w ∈ gw := by decide +kernel
theorem iX1 : ∀ w ∈ u_ws RX1 TX1 5, w ∈ gw := by decide +kernel
theorem iX2 : ∀ w ∈ u_ws RX2 TX2 10, w ∈ gw := by decide +kernel
theorem iX3 : ∀ w ∈ u_ws RX3 TX3 10, w ∈ gw := by decide +kernel
theorem iX4 : ∀ w ∈ u_ws RX4 TX4 4, w ∈ gw := by decide +kernel
theorem iX5 : ∀ w ∈ u_ws RX5 TX5 2, w ∈ gw := by decide +kernel
theorem iX6 : ∀ w ∈ u_ws RX6 TX6 7, w ∈ gw := by decide +kernel
theorem iX7 : ∀ w ∈ u_ws RX7 TX7 4, w ∈ gw := by decide +kernel
theorem iX8 : ∀ w ∈ u_ws RX8 TX8 9, w ∈ gw := by decide +kernel
theorem iX9 : ∀ w ∈ u_ws RX9 TX9 30, w ∈ gw := by decide +kernel
def clsF (ci : Nat) (C : String) (T : u_T) (N : Nat) : Prop := N = (nthD ftab ci []).length ∧ (∀ w ∈ u_ws C T N, w ∈ gw) ∧ (∃ ty0 : Nat → FieldType, (∀ k, k < N → parseFieldDescriptor (T k).2.2.1 = some (ty0 k)) ∧ ∀ j, j < N → defaultValue (ty0 j) = (match nthD (nthD ftab ci []) j (0, 0, 0) with | (2, _, _) => Value.null | _ => Value.int 0)) ∧ (∀ a, a < N → ∀ b, b < N → a ≠ b → (T a).2.1 ≠ (T b).2.1) ∧ ∀ k, k < N → (T k).1 = C
theorem cls_ok {ci : Nat} {C : String} {T : u_T} {N : Nat} (h : vwCl[ci]? = some (C, T, N)) : clsF ci C T N := by
  match ci, h with
  | 0, h => cases h; exact ⟨by decide +kernel, iX0, ⟨tyX0, tyX0_ok, by decide +kernel⟩, nmX0, by decide +kernel⟩
  | 1, h => cases h; exact ⟨by decide +kernel, iX1, ⟨tyX1, tyX1_ok, by decide +kernel⟩, nmX1, by decide +kernel⟩
  | 2, h => cases h; exact ⟨by decide +kernel, iX2, ⟨tyX2, tyX2_ok, by decide +kernel⟩, nmX2, by decide +kernel⟩
  | 3, h => cases h; exact ⟨by decide +kernel, iX3, ⟨tyX3, tyX3_ok, by decide +kernel⟩, nmX3, by decide +kernel⟩
  | 4, h => cases h; exact ⟨by decide +kernel, iX4, ⟨tyX4, tyX4_ok, by decide +kernel⟩, nmX4, by decide +kernel⟩
  | 5, h => cases h; exact ⟨by decide +kernel, iX5, ⟨tyX5, tyX5_ok, by decide +kernel⟩, nmX5, by decide +kernel⟩
  | 6, h => cases h; exact ⟨by decide +kernel, iX6, ⟨tyX6, tyX6_ok, by decide +kernel⟩, nmX6, by decide +kernel⟩
  | 7, h => cases h; exact ⟨by decide +kernel, iX7, ⟨tyX7, tyX7_ok, by decide +kernel⟩, nmX7, by decide +kernel⟩
  | 8, h => cases h; exact ⟨by decide +kernel, iX8, ⟨tyX8, tyX8_ok, by decide +kernel⟩, nmX8, by decide +kernel⟩
  | 9, h => cases h; exact ⟨by decide +kernel, iX9, ⟨tyX9, tyX9_ok, by decide +kernel⟩, nmX9, by decide +kernel⟩
  | n + 10, h => simp [vwCl] at h
def tyAt (ci j : Nat) : Option FieldType := (vwCl[ci]?).bind fun q => parseFieldDescriptor (q.2.1 j).2.2.1
def finAt (ci j : Nat) : Option Bool := (vwCl[ci]?).map fun q => (q.2.1 j).2.2.2
def isRf : Option FieldType → Bool
  | some (.object _) => true
  | some (.array _) => true
  | _ => false
def fkB (ci j : Nat) : Bool := match Nat.blt j (nthD ftab ci []).length with
  | false => true
  | true => match (nthD (nthD ftab ci []) j (9, 0, 0)).1 with
    | 0 => decide (tyAt ci j = some .int) && decide (finAt ci j = some false)
    | 1 => decide (tyAt ci j = some .boolean) && decide (finAt ci j = some false)
    | 2 => isRf (tyAt ci j) && decide (finAt ci j = some true)
    | _ => true
theorem fk_b : ∀ ci, ci < 10 → ∀ j, j < 30 → fkB ci j = true := by decide +kernel
theorem flen_b : ∀ ci, (nthD ftab ci []).length ≤ 30 := by
  intro ci
  have h : ∀ ci, ci < 10 → (nthD ftab ci []).length ≤ 30 := by decide +kernel
  rcases Nat.lt_or_ge ci 10 with h1 | h1
  · exact h ci h1
  · rw [nthD_none ftab ci [] (by have : ftab.length = 10 := by decide +kernel
                                 omega)]
    decide
theorem fk0 {ci j : Nat} {C : String} {T : u_T} {N : Nat} (h : vwCl[ci]? = some (C, T, N)) (hj : j < (nthD ftab ci []).length) (hk : (nthD (nthD ftab ci []) j (9, 0, 0)).1 = 0) : parseFieldDescriptor (T j).2.2.1 = some .int ∧ (T j).2.2.2 = false := by
  have hc : ci < 10 := (List.getElem?_eq_some_iff.mp h).1
  have h1 := fk_b ci hc j (Nat.lt_of_lt_of_le hj (flen_b ci))
  unfold fkB at h1
  rw [show Nat.blt j (nthD ftab ci []).length = true from by rw [Nat.blt_eq]; exact hj] at h1
  simp only [hk, Bool.and_eq_true, decide_eq_true_eq, tyAt, finAt, h, Option.bind_some, Option.map_some, Option.some.injEq] at h1
  exact h1
theorem fk1 {ci j : Nat} {C : String} {T : u_T} {N : Nat} (h : vwCl[ci]? = some (C, T, N)) (hj : j < (nthD ftab ci []).length) (hk : (nthD (nthD ftab ci []) j (9, 0, 0)).1 = 1) : parseFieldDescriptor (T j).2.2.1 = some .boolean ∧ (T j).2.2.2 = false := by
  have hc : ci < 10 := (List.getElem?_eq_some_iff.mp h).1
  have h1 := fk_b ci hc j (Nat.lt_of_lt_of_le hj (flen_b ci))
  unfold fkB at h1
  rw [show Nat.blt j (nthD ftab ci []).length = true from by rw [Nat.blt_eq]; exact hj] at h1
  simp only [hk, Bool.and_eq_true, decide_eq_true_eq, tyAt, finAt, h, Option.bind_some, Option.map_some, Option.some.injEq] at h1
  exact h1
theorem fk2 {ci j : Nat} {C : String} {T : u_T} {N : Nat} (h : vwCl[ci]? = some (C, T, N)) (hj : j < (nthD ftab ci []).length) (hk : (nthD (nthD ftab ci []) j (9, 0, 0)).1 = 2) : isRf (parseFieldDescriptor (T j).2.2.1) = true ∧ (T j).2.2.2 = true := by
  have hc : ci < 10 := (List.getElem?_eq_some_iff.mp h).1
  have h1 := fk_b ci hc j (Nat.lt_of_lt_of_le hj (flen_b ci))
  unfold fkB at h1
  rw [show Nat.blt j (nthD ftab ci []).length = true from by rw [Nat.blt_eq]; exact hj] at h1
  simp only [hk, Bool.and_eq_true, decide_eq_true_eq, tyAt, finAt, h, Option.bind_some, Option.map_some, Option.some.injEq] at h1
  exact h1
theorem nthD_lt {α : Type} {l : List α} {j : Nat} {d x : α} (h : nthD l j d = x) (hne : x ≠ d) : j < l.length := by
  rcases Nat.lt_or_ge j l.length with h1 | h1
  · exact h1
  · rw [nthD_none l j d h1] at h
    exact absurd h.symm hne
theorem nthD_eq {α : Type} {l : List α} {j : Nat} (d d1 : α) (h : j < l.length) : nthD l j d = nthD l j d1 := by
  have h1 := nthD_get l j d h
  rw [nthD_get l j d1 h] at h1
  exact (Option.some.inj h1).symm
theorem tinfo_lt {t : Nat} {q : Nat × Nat} (h : nthD tinfo t (99, 0) = q) (hq : q.1 ≠ 99) : t < 51 := nthD_lt (l := tinfo) h (fun e => hq (by rw [e]))
theorem vld_obj {n t o : Nat} {q : Nat × Nat} (hv : vld n t o) (h : nthD tinfo t (99, 0) = q) (hq : q.1 ≠ 99) : vld0 n t o := by
  have ht := tinfo_lt h hq
  rcases hv with hv | hv
  · exact hv
  · rcases hv with ⟨h1, -⟩ | ⟨h1, -⟩ <;> omega
theorem vld_st {n t o : Nat} {m : Nat} (hv : vld n t o) (h : nthD tinfo t (99, 0) = (99, m)) : vldS t o := by
  rcases hv with hv | hv
  · obtain ⟨x, h1, h2, h3⟩ := hv
    have h5 : ∀ o, o < 117 → (nthD tinfo (nthD allIds o (99, 0)).1 (99, 0)).1 ≠ 99 := by decide +kernel
    have h6 := h5 x (by omega)
    rw [h3] at h6
    exact absurd (by rw [h]) h6
  · exact hv
theorem t14 : ∀ t, t < 51 → (nthD tinfo t (99, 0)).1 = 3 → t = 14 := by decide +kernel
theorem fval_congr {E : EV} {ci t k j : Nat} {I I1 : SI} {A A1 : SA} (h1 : I1 t k = I t k) (h3 : A1 t k = A t k) : fval E ci t k I1 A1 j = fval E ci t k I A j := by
  unfold fval
  rw [h1, h3]
theorem cellE_congr {E : EV} {I I1 : SI} {J J1 : SJ} {A A1 : SA} {a b : Nat} (h1 : I1 a b = I a b) (h2 : a = 14 → J1 b = J b) (h3 : A1 a b = A a b) : cellE E a b I1 J1 A1 = cellE E a b I J A := by
  have hf : ∀ ci, fval E ci a b I1 A1 = fval E ci a b I A := fun ci => funext fun j => fval_congr h1 h3
  unfold cellE
  rw [h1, h3]
  split
  · rw [hf]
  · rfl
  · rfl
  · rename_i q hq
    rw [h2 (t14 a (tinfo_lt hq (show (3 : Nat) ≠ 99 by decide)) (by rw [hq]))]
  · rfl
  · rfl
  · rfl
  · rfl
theorem uI_ne {I : SI} {t k j a b : Nat} {x : Int32} (h : (a, b) ≠ (t, k)) : uI I t k j x a b = I a b := by
  funext c
  unfold uI
  rw [if_neg]
  rintro ⟨h1, h2, -⟩
  exact h (by rw [h1, h2])
theorem uI_self {I : SI} {t k j : Nat} {x : Int32} : uI I t k j x t k = upd (I t k) j x := by
  funext c
  simp [uI, upd]
theorem uA_ne {A : SA} {t k j a b : Nat} (h : (a, b) ≠ (t, k)) : uA A t k j a b = A a b := by
  funext c
  unfold uA
  rw [if_neg]
  rintro ⟨h1, h2, -⟩
  exact h (by rw [h1, h2])
theorem zI_ne {I : SI} {t k a b : Nat} (h : (a, b) ≠ (t, k)) : zI I t k a b = I a b := by
  funext c
  unfold zI
  rw [if_neg]
  rintro ⟨h1, h2⟩
  exact h (by rw [h1, h2])
theorem zA_ne {A : SA} {t k a b : Nat} (h : (a, b) ≠ (t, k)) : zA A t k a b = A a b := by
  funext c
  unfold zA
  rw [if_neg]
  rintro ⟨h1, h2⟩
  exact h (by rw [h1, h2])
theorem cI_ne {I : SI} {t k t1 k1 sp dp n a b : Nat} (h : (a, b) ≠ (t1, k1)) : cI I t k t1 k1 sp dp n a b = I a b := by
  funext c
  unfold cI
  rw [if_neg]
  rintro ⟨h1, h2⟩
  exact h (by rw [h1, h2])
theorem vld0.mono {n n1 t k : Nat} (h : vld0 n t k) (h1 : n ≤ n1) (h2 : n1 ≤ 117) : vld0 n1 t k := by
  obtain ⟨o, a, b, c⟩ := h
  exact ⟨o, by omega, h2, c⟩
theorem vok.mono {n n1 : Nat} {a : AV} (h : vok n a) (h1 : n ≤ n1) (h2 : n1 ≤ 117) : vok n1 a := by
  rcases a with x | x | (_ | ⟨t, k⟩)
  · trivial
  · trivial
  · trivial
  · exact h.elim (fun h => Or.inl (h.mono h1 h2)) Or.inr
theorem alook_mem {α : Type} : ∀ (l : List (Nat × α)) (i : Nat) (a : α), alook l i = some a → (i, a) ∈ l
  | [], i, a, h => by simp [alook] at h
  | (j, b) :: l, i, a, h => by
    simp only [alook] at h
    split at h
    · rename_i hb
      cases h
      rw [Nat.eq_of_beq_eq_true hb]
      exact List.mem_cons_self
    · exact List.mem_cons_of_mem _ (alook_mem l i a h)
theorem wref_eq {t1 cd o : Nat} {k : AV → Prop} (h : wref t1 cd o k) : k (vr t1 (rtg cd o)) := by
  unfold wref at h
  unfold rtg
  split at h <;> exact h
/-- where a reference of a made thing leads, all being made -/
theorem ref_all : ∀ o, o < 117 → ∀ j, j < 30 → (nthD tinfo (nthD allIds o (99, 0)).1 (99, 0)).1 = 0 → (nthD (nthD ftab (nthD tinfo (nthD allIds o (99, 0)).1 (99, 0)).2 []) j (9, 0, 0)).1 = 2 →
    Nat.blt (off (nthD (nthD ftab (nthD tinfo (nthD allIds o (99, 0)).1 (99, 0)).2 []) j (9, 0, 0)).2.1 (rtg (nthD (nthD ftab (nthD tinfo (nthD allIds o (99, 0)).1 (99, 0)).2 []) j (9, 0, 0)).2.2 (nthD allIds o (99, 0)).2)) 117 = true := by decide +kernel
theorem off_vld {n t k : Nat} (h : off t k < n) (hn : n ≤ 117) : vld0 n t k := by
  refine ⟨off t k, h, hn, ?_⟩
  have hl : off t k < allIds.length := by rw [allIds_len]; omega
  have h1 : allIds[off t k]? = some (t, k) := by
    unfold off at hl ⊢
    rw [List.getElem?_eq_getElem hl]
    congr 1
    exact List.getElem_idxOf hl
  rw [nthD_get allIds (off t k) (99, 0) hl] at h1
  exact Option.some.inj h1
end
section
/-! SOUNDNESS, 3: the store -/
theorem cellE_obj {E : EV} {t k ci : Nat} {I : SI} {J : SJ} {A : SA} (h : nthD tinfo t (99, 0) = (0, ci)) : cellE E t k I J A = .inr (ci, (List.range (nthD ftab ci []).length).map (fval E ci t k I A)) := by
  simp only [cellE, h]
theorem cellE_int {E : EV} {t k m : Nat} {I : SI} {J : SJ} {A : SA} (h : nthD tinfo t (99, 0) = (1, m)) : cellE E t k I J A = .inl (eC E 0, m, .inl (I t k)) := by
  simp only [cellE, h]
theorem cellE_bool {E : EV} {t k m : Nat} {I : SI} {J : SJ} {A : SA} (h : nthD tinfo t (99, 0) = (2, m)) : cellE E t k I J A = .inl (eC E 1, m, .inl (I t k)) := by
  simp only [cellE, h]
theorem t14i : nthD tinfo 14 (99, 0) = (3, 0) := rfl
theorem cellE_long {E : EV} {k : Nat} {I : SI} {J : SJ} {A : SA} : cellE E 14 k I J A = .inl (eC E 2, tlen 14 k, .inr (.inl (J k))) := by
  simp only [cellE, t14i]
theorem cellE_fix {E : EV} {t k m : Nat} {I : SI} {J : SJ} {A : SA} (h : nthD tinfo t (99, 0) = (4, m)) : cellE E t k I J A = .inl (eC E 3, m, .inr (.inr (.inr (.inr (fun j => if A t k j = true then some (adr E 3 (10 + j)) else none))))) := by
  simp only [cellE, h]
theorem cellE_dyn {E : EV} {t k m : Nat} {I : SI} {J : SJ} {A : SA} (h : nthD tinfo t (99, 0) = (5, m)) : cellE E t k I J A = .inl (eC E 3, m, .inr (.inr (.inr (.inr (fun j => if A t k j = true then some (adr E 3 (I t k j).toNatClampNeg) else none))))) := by
  simp only [cellE, h]
theorem cellE_rows {E : EV} {t k m : Nat} {I : SI} {J : SJ} {A : SA} (h : nthD tinfo t (99, 0) = (6, m)) : cellE E t k I J A = .inl (eC E 4, m, .inr (.inr (.inr (.inr (fun j => if j < m then some (adr E 10 (5 * k + j)) else none))))) := by
  simp only [cellE, h]
theorem fs_get {E : EV} {ci t k j : Nat} {I : SI} {A : SA} (hj : j < (nthD ftab ci []).length) : ((List.range (nthD ftab ci []).length).map (fval E ci t k I A))[j]? = some (fval E ci t k I A j) := by
  simp [hj]
theorem fs_set {E : EV} {ci t k j : Nat} {I I1 : SI} {A A1 : SA} {v : Value} (hv : fval E ci t k I1 A1 j = v) (hne : ∀ i, i ≠ j → fval E ci t k I1 A1 i = fval E ci t k I A i) : ((List.range (nthD ftab ci []).length).map (fval E ci t k I A)).set j v = (List.range (nthD ftab ci []).length).map (fval E ci t k I1 A1) := by
  apply List.ext_getElem?
  intro i
  by_cases hi : i < (nthD ftab ci []).length
  · by_cases e : i = j
    · subst e
      rw [List.getElem?_set_self (by simpa using hi), fs_get hi, hv]
    · rw [List.getElem?_set_ne (Ne.symm e), fs_get hi, fs_get hi, hne i e]
  · rw [List.getElem?_eq_none (by simpa using hi), List.getElem?_eq_none (by simpa using hi)]
theorem fval_int {E : EV} {ci t k j : Nat} {I : SI} {A : SA} (hj : j < (nthD ftab ci []).length) (h : (nthD (nthD ftab ci []) j (9, 0, 0)).1 ≠ 2) : fval E ci t k I A j = .int (I t k j) := by
  unfold fval
  rw [nthD_eq (0, 0, 0) (9, 0, 0) hj]
  split
  · rename_i h1
    rw [h1] at h
    exact absurd rfl h
  · rfl
theorem fval_ref {E : EV} {ci t k j t1 cd : Nat} {I : SI} {A : SA} (hj : j < (nthD ftab ci []).length) (h : nthD (nthD ftab ci []) j (9, 0, 0) = (2, t1, cd)) : fval E ci t k I A j = if A t k j = true then .ref (adr E t1 (rtg cd k)) else .null := by
  unfold fval
  rw [nthD_eq (0, 0, 0) (9, 0, 0) hj, h]
  rfl
theorem okF_link {own : String} {idx ci j pl : Nat} {nest : Bool} (h : okF own (idx, ci, j, nest, pl) = true) (hci : Nat.beq ci 100 = false) : ∃ C T N, vwCl[ci]? = some (C, T, N) ∧ j < N ∧ (T j).1 = C ∧ ((nest = true ∧ Cond.fieldLinkNest own idx C (T j).2.1 (T j).2.2.1 "OutcropAges" ∈ nestW) ∨ (nest = false ∧ Cond.fieldLink own idx C (T j).2.1 (T j).2.2.1 ∈ gw)) ∧ (nest = false → C = own) := by
  simp only [okF, hci] at h
  cases hv : vwCl[ci]? with
  | none => rw [hv] at h; cases h
  | some q =>
    obtain ⟨C, T, N⟩ := q
    rw [hv] at h
    simp only [Bool.and_eq_true, decide_eq_true_eq] at h
    obtain ⟨⟨⟨h1, h2⟩, h3⟩, h4⟩ := h
    refine ⟨C, T, N, rfl, h1, h3, ?_⟩
    cases nest with
    | true =>
      rw [if_pos rfl] at h2
      exact ⟨Or.inl ⟨rfl, inN (of_decide_eq_true h2) rfl⟩, fun h => by cases h⟩
    | false =>
      rw [if_neg (by decide), Bool.and_eq_true] at h2
      exact ⟨Or.inr ⟨rfl, inG (of_decide_eq_true h2.1) h2.2⟩, fun _ => of_decide_eq_true (by simpa using h4)⟩
section SOUND2
variable {E : EV} {M : MD} {d N0 N1 : Nat} {p : Program} {e : Env} {R : Room} {s : State} {m : MethodId} {args : Array Value} {below : List Frame} {meth : Method} {c : Code} {H : Heap} {locs : List Loc} {cells slots : Nat} {Z : State → Prop} {pc : Nat} {la : Array Slot} {I : SI} {J : SJ} {n : Nat} {A : SA} {rest : List Value}
theorem Rep.D {H : Heap} (_ : Rep E H (I, J, n, A)) : va_D (eA E) (wsO E (I, J, n, A)) := wsO_D
theorem r_get {idx ci j t o pl : Nat} {nest : Bool} (hC : Ctx E M d N0 N1 R p s m meth c args) (hf : okF (mP M).1 (idx, ci, j, nest, pl) = true) (hci : Nat.beq ci 100 = false) (ht : nthD tinfo t (99, 0) = (0, ci)) (hv : vld0 n t o) (hR : Rep E H (I, J, n, A)) (hdg : decode (mY M).2.1 pc = .ok (.getfield idx, 3))
    (kk : W p (eL E) e R s m args below meth c H locs cells slots Z (F0 m (pc + 3) la (fval E ci t o I A j :: rest))) : W p (eL E) e R s m args below meth c H locs cells slots Z (F0 m pc la (.ref (adr E t o) :: rest)) := by
  obtain ⟨hx, hb, hml, hown, hts, hini, hKK, -⟩ := hC
  obtain ⟨C, T, N, h1, h2, h3, h4, h4o⟩ := okF_link hf hci
  obtain ⟨f1, f2, -⟩ := cls_ok h1
  have he : (wsO E (I, J, n, A))[off t o]? = some (adr E t o, .inr (ci, (List.range (nthD ftab ci []).length).map (fval E ci t o I A))) := by
    rw [Rep_at (H := H) hv, cellE_obj ht]
  rcases h4 with ⟨-, h4⟩ | ⟨-, h4⟩
  · exact va_getN (D := eD E) (ci := ci) (v := fval E ci t o I A j) (C := C) (T := T) (N := N) hx hb hts f2 hown hKK.1 hR.1 (off t o) he h1 j h2 (va_Nw.use rfl (hKK.2.1 _ h4)) (fun x hx => by rw [h3] at hx; exact hx) (fs_get (by rw [← f1]; exact h2)) hdg kk
  · exact va_get (D := eD E) (ci := ci) (v := fval E ci t o I A j) (C := C) (T := T) (N := N) hx hb hts f2 hown hKK.1 hR.1 (off t o) he h1 j h2 (hts _ h4) (fun x hx => by rw [h3] at hx; exact hx) (fs_get (by rw [← f1]; exact h2)) hdg kk
theorem Rep.of_set {H1 : Heap} {I1 : SI} {J1 : SJ} {A1 : SA} {t o : Nat} (hR : Rep E H (I, J, n, A)) (hv : vld0 n t o) (hne : ∀ a b, (a, b) ≠ (t, o) → cellE E a b I1 J1 A1 = cellE E a b I J A) (hz : H1.size = H.size) (he : va_at (eD E) vwCl (adr E t o, cellE E t o I1 J1 A1) H1) (oq : ∀ q : Nat, q ≠ adr E t o → H1[q]? = H[q]?) : Rep E H1 (I1, J1, n, A1) := by
  have h := hR.1.set (e := cellE E t o I1 J1 A1) wsO_D (Rep_at (H := H) hv) he oq
  rw [wsO_set hv hne] at h
  exact ⟨h, fun hn => by rw [hz]; exact hR.2.1 hn, hR.2.2⟩
theorem adr_in {t o : Nat} (hv : vld0 n t o) : eA E (adr E t o) := by
  obtain ⟨h1, h2, h3⟩ := vld0_at hv
  show eB E ≤ adr E t o
  unfold adr
  rw [if_pos h3]
  omega
theorem r_put {idx ci j t o pl : Nat} {nest : Bool} {I1 : SI} {A1 : SA} {v : Value} {ty : FieldType} (hC : Ctx E M d N0 N1 R p s m meth c args) (hf : okF (mP M).1 (idx, ci, j, nest, pl) = true) (hci : Nat.beq ci 100 = false) (ht : nthD tinfo t (99, 0) = (0, ci)) (hv : vld0 n t o) (hR : Rep E H (I, J, n, A)) (hS : va_S (eA E) s.heap H locs)
    (hd : ∀ C T N, vwCl[ci]? = some (C, T, N) → parseFieldDescriptor (T j).2.2.1 = some ty ∧ (T j).2.2.2 = false) (hn : narrow ty v = v) (hfit : fits ty v = true) (hv1 : fval E ci t o I1 A1 j = v) (hne : ∀ i, i ≠ j → fval E ci t o I1 A1 i = fval E ci t o I A i) (hoth : ∀ a b, (a, b) ≠ (t, o) → cellE E a b I1 J A1 = cellE E a b I J A) (hdg : decode (mY M).2.1 pc = .ok (.putfield idx, 3))
    (kk : ∀ H1 locs1, Rep E H1 (I1, J, n, A1) → va_S (eA E) s.heap H1 locs1 → W p (eL E) e R s m args below meth c H1 locs1 cells slots Z (F0 m (pc + 3) la rest)) : W p (eL E) e R s m args below meth c H locs cells slots Z (F0 m pc la (v :: .ref (adr E t o) :: rest)) := by
  obtain ⟨hx, hb, hml, hown, hts, hini, hKK, -⟩ := hC
  obtain ⟨C, T, N, h1, h2, h3, h4, h4o⟩ := okF_link hf hci
  obtain ⟨f1, f2, ⟨ty0, f3, -⟩, f4, f5⟩ := cls_ok h1
  obtain ⟨hd1, hd2⟩ := hd C T N h1
  have he : (wsO E (I, J, n, A))[off t o]? = some (adr E t o, .inr (ci, (List.range (nthD ftab ci []).length).map (fval E ci t o I A))) := by
    rw [Rep_at (H := H) hv, cellE_obj ht]
  have hap := va_apart (own := C) (D := eD E) hts f2 ty0 f3 f4 hKK.1 h1
  obtain ⟨r, g1, cell, q1, q2, q3, q4⟩ := hR.1 (off t o) _ he
  have hr : r = (C, T, N) := Option.some.inj (g1.symm.trans h1)
  subst hr
  obtain ⟨hSl, hfc, kC, hkC, hkind⟩ := hKK.1.1 ci _ h1
  obtain ⟨cf, kf, fi, f, hi, hsl⟩ := hSl j h2
  have hlay := hts _ (f2 _ (u_in_lay h2))
  unfold u_lay at hlay
  rw [if_neg (by rw [hd2]; decide)] at hlay
  have hst := (u_facts hfc hkC (u_lays hts f2 h2) hi).1
  have h6 := u_store hfc hkC hkind hlay hi hd1 hn hfit
  have hi2 : s.fieldFound? C (T j).2.1 (T j).2.2.1 = some (cf, kf, fi, f) := by
    have hi3 := hi
    rw [h3] at hi3
    exact hi3
  have fin : ∀ H' : Heap, H'[adr E t o]? = some (cell.setSlot f.slot v) → H'.size = H.size → (∀ q, q ≠ adr E t o → H'[q]? = H[q]?) → W p (eL E) e R s m args below meth c H' (locs ++ [⟨adr E t o, f.slot⟩]) cells slots Z (F0 m (pc + 3) la rest) := by
    intro H' e1 e2 e3
    rw [hsl] at e1
    refine kk H' _ (hR.of_set hv hoth e2 ?_ e3) (hS.put e2 e3 (adr_in hv))
    rw [cellE_obj ht]
    refine ⟨_, h1, ?_⟩
    have hj : j < (nthD ftab ci []).length := by rw [← f1]; exact h2
    have hl : j < ((List.range (nthD ftab ci []).length).map (fval E ci t o I A)).length := by simpa using hj
    have hz := t_OB.to (V := updV (vp_V ((List.range (nthD ftab ci []).length).map (fval E ci t o I A))) j v) ⟨_, e1, q2, q3, t_set q4 hap h2 v⟩ (fun i _ => vp_updV_set hl v i)
    rw [fs_set hv1 hne] at hz
    exact hz
  rcases h4 with ⟨-, h4⟩ | ⟨-, h4⟩
  · exact va_WputK hx hb (f := f) hown (va_Nw.use rfl (hKK.2.1 _ h4)) hi2 hst (by rw [q2]; exact h6) q1 q3 (by rw [hsl]; exact k2_hasslot (q4 j h2)) rfl rfl hdg fin
  · exact W.putK hx hb (f := f) ⟨hown, hts _ h4, ⟨_, _, _, hi2⟩, hst⟩ (by rw [q2]; exact h6) q1 q3 (by rw [hsl]; exact k2_hasslot (q4 j h2)) rfl rfl hdg fin
theorem r_putF {idx ci j t o pl : Nat} {nest : Bool} {A1 : SA} {v : Value} {ty : FieldType} (hC : Ctx E M d N0 N1 R p s m meth c args) (hin : mI M = true) (hf : okF (mP M).1 (idx, ci, j, nest, pl) = true) (hci : Nat.beq ci 100 = false) (ht : nthD tinfo t (99, 0) = (0, ci)) (hv : vld0 n t o) (hR : Rep E H (I, J, n, A)) (hS : va_S (eA E) s.heap H locs)
    (hd : ∀ C T N, vwCl[ci]? = some (C, T, N) → parseFieldDescriptor (T j).2.2.1 = some ty ∧ (T j).2.2.2 = true) (hnest : nest = false) (hn : narrow ty v = v) (hfit : fits ty v = true) (hv1 : fval E ci t o I A1 j = v) (hne : ∀ i, i ≠ j → fval E ci t o I A1 i = fval E ci t o I A i) (hoth : ∀ a b, (a, b) ≠ (t, o) → cellE E a b I J A1 = cellE E a b I J A) (hdg : decode (mY M).2.1 pc = .ok (.putfield idx, 3))
    (kk : ∀ H1 locs1, Rep E H1 (I, J, n, A1) → va_S (eA E) s.heap H1 locs1 → W p (eL E) e R s m args below meth c H1 locs1 cells slots Z (F0 m (pc + 3) la rest)) : W p (eL E) e R s m args below meth c H locs cells slots Z (F0 m pc la (v :: .ref (adr E t o) :: rest)) := by
  obtain ⟨hx, hb, hml, hown, hts, hini, hKK, -⟩ := hC
  obtain ⟨C, T, N, h1, h2, h3, h4, h4o⟩ := okF_link hf hci
  obtain ⟨f1, f2, ⟨ty0, f3, -⟩, f4, f5⟩ := cls_ok h1
  obtain ⟨hd1, hd2⟩ := hd C T N h1
  have hd3 := h4o hnest
  have he : (wsO E (I, J, n, A))[off t o]? = some (adr E t o, .inr (ci, (List.range (nthD ftab ci []).length).map (fval E ci t o I A))) := by
    rw [Rep_at (H := H) hv, cellE_obj ht]
  have hap := va_apart (own := C) (D := eD E) hts f2 ty0 f3 f4 hKK.1 h1
  obtain ⟨r, g1, cell, q1, q2, q3, q4⟩ := hR.1 (off t o) _ he
  have hr : r = (C, T, N) := Option.some.inj (g1.symm.trans h1)
  subst hr
  obtain ⟨hSl, hfc, kC, hkC, hkind⟩ := hKK.1.1 ci _ h1
  obtain ⟨cf, kf, fi, f, hi, hsl⟩ := hSl j h2
  have hlay := hts _ (f2 _ (u_in_lay h2))
  unfold u_lay at hlay
  rw [if_pos hd2] at hlay
  have hst := (u_facts hfc hkC (u_lays hts f2 h2) hi).1
  have hcf : m.cls = cf := by
    obtain ⟨_, _, c', _, _, _, -, -, hf', -, -, -, hown2, -⟩ := Cond.laysFinal_spec hlay
    have e1 : c' = cf := by have := hi.symm.trans hf'; simp at this; exact this.1.symm
    rw [h3, hd3] at hown2
    rw [← e1]; exact Option.some.inj (hown.symm.trans hown2)
  have h6 := u_fits hfc hkC hkind (Or.inr hlay) hi hd1 hn hfit
  have hi2 : s.fieldFound? C (T j).2.1 (T j).2.2.1 = some (cf, kf, fi, f) := by
    have hi3 := hi
    rw [h3] at hi3
    exact hi3
  rcases h4 with ⟨h4, -⟩ | ⟨-, h4⟩
  · rw [hnest] at h4; cases h4
  refine W.putFinK hx hb hown (hts _ h4) hi2 hst hcf (hini hin) (by rw [q2]; exact h6) q1 q3 (by rw [hsl]; exact k2_hasslot (q4 j h2)) rfl rfl hdg fun H' e1 e2 e3 => ?_
  rw [hsl] at e1
  refine kk H' _ (hR.of_set hv hoth e2 ?_ e3) (hS.put e2 e3 (adr_in hv))
  rw [cellE_obj ht]
  refine ⟨_, h1, ?_⟩
  have hj : j < (nthD ftab ci []).length := by rw [← f1]; exact h2
  have hl : j < ((List.range (nthD ftab ci []).length).map (fval E ci t o I A)).length := by simpa using hj
  have hz := t_OB.to (V := updV (vp_V ((List.range (nthD ftab ci []).length).map (fval E ci t o I A))) j v) ⟨_, e1, q2, q3, t_set q4 hap h2 v⟩ (fun i _ => vp_updV_set hl v i)
  rw [fs_set hv1 hne] at hz
  exact hz
end SOUND2
end
section
/-! SOUNDNESS, 4: arrays, statics, new things -/
section SOUND3
variable {E : EV} {M : MD} {d N0 N1 : Nat} {p : Program} {e : Env} {R : Room} {s : State} {m : MethodId} {args : Array Value} {below : List Frame} {meth : Method} {c : Code} {H : Heap} {locs : List Loc} {cells slots : Nat} {Z : State → Prop} {pc : Nat} {la : Array Slot} {I : SI} {J : SJ} {n : Nat} {A : SA} {rest : List Value}
theorem r_ild {t o w : Nat} {i : Int32} (hC : Ctx E M d N0 N1 R p s m meth c args) (ht : nthD tinfo t (99, 0) = (1, w)) (hv : vld0 n t o) (hR : Rep E H (I, J, n, A)) (hin : vp_in i w) (hdg : decode (mY M).2.1 pc = .ok (.iaload, 1))
    (kk : W p (eL E) e R s m args below meth c H locs cells slots Z (F0 m (pc + 1) la (.int (I t o i.toNatClampNeg) :: rest))) : W p (eL E) e R s m args below meth c H locs cells slots Z (F0 m pc la (.int i :: .ref (adr E t o) :: rest)) := by
  obtain ⟨hx, hb, hml, hown, hts, hini, hKK, -⟩ := hC
  exact va_iald (D := eD E) hx hb hKK.1 hR.1 (off t o) 0 (by rw [Rep_at (H := H) hv, cellE_int ht]) rfl hin hdg kk
theorem r_zld {t o w : Nat} {i : Int32} (hC : Ctx E M d N0 N1 R p s m meth c args) (ht : nthD tinfo t (99, 0) = (2, w)) (hv : vld0 n t o) (hR : Rep E H (I, J, n, A)) (hin : vp_in i w) (hdg : decode (mY M).2.1 pc = .ok (.baload, 1))
    (kk : W p (eL E) e R s m args below meth c H locs cells slots Z (F0 m (pc + 1) la (.int (I t o i.toNatClampNeg) :: rest))) : W p (eL E) e R s m args below meth c H locs cells slots Z (F0 m pc la (.int i :: .ref (adr E t o) :: rest)) := by
  obtain ⟨hx, hb, hml, hown, hts, hini, hKK, -⟩ := hC
  exact va_zald (D := eD E) hx hb hKK.1 hR.1 (off t o) 1 (by rw [Rep_at (H := H) hv, cellE_bool ht]) rfl hin hdg kk
theorem r_lld {o : Nat} {i : Int32} (hC : Ctx E M d N0 N1 R p s m meth c args) (hv : vld0 n 14 o) (hR : Rep E H (I, J, n, A)) (hin : vp_in i (tlen 14 o)) (hdg : decode (mY M).2.1 pc = .ok (.laload, 1))
    (kk : W p (eL E) e R s m args below meth c H locs cells slots Z (F0 m (pc + 1) la (.long (J o i.toNatClampNeg) :: rest))) : W p (eL E) e R s m args below meth c H locs cells slots Z (F0 m pc la (.int i :: .ref (adr E 14 o) :: rest)) := by
  obtain ⟨hx, hb, hml, hown, hts, hini, hKK, -⟩ := hC
  exact va_lald (D := eD E) hx hb hKK.1 hR.1 (off 14 o) 2 (by rw [Rep_at (H := H) hv, cellE_long]) rfl hin hdg kk
theorem r_ist {t o w : Nat} {i x : Int32} (hC : Ctx E M d N0 N1 R p s m meth c args) (ht : nthD tinfo t (99, 0) = (1, w)) (hv : vld0 n t o) (hR : Rep E H (I, J, n, A)) (hS : va_S (eA E) s.heap H locs) (hin : vp_in i w) (hdg : decode (mY M).2.1 pc = .ok (.iastore, 1))
    (kk : ∀ H1 locs1, Rep E H1 (uI I t o i.toNatClampNeg x, J, n, A) → va_S (eA E) s.heap H1 locs1 → W p (eL E) e R s m args below meth c H1 locs1 cells slots Z (F0 m (pc + 1) la rest)) : W p (eL E) e R s m args below meth c H locs cells slots Z (F0 m pc la (.int x :: .int i :: .ref (adr E t o) :: rest)) := by
  obtain ⟨hx, hb, hml, hown, hts, hini, hKK, -⟩ := hC
  have ha : (wsO E (I, J, n, A))[off t o]? = some (adr E t o, .inl (eC E 0, w, .inl (I t o))) := by rw [Rep_at (H := H) hv, cellE_int ht]
  refine W.iast hx hb (hR.1 _ _ ha) ((hKK.1.2 0 _ rfl).1 w (fun j => .int (I t o j))) (fun q => by cases q) (by show ¬ (i < 0 ∨ (arrV _ _ _).slots.size ≤ _); rw [arrV_size]; exact hin) rfl rfl hdg fun H1 e1 z oq => ?_
  refine kk H1 _ (hR.of_set hv (fun a b h => cellE_congr (uI_ne h) (fun _ => rfl) rfl) z ?_ oq) (hS.put z oq (adr_in hv))
  rw [cellE_int ht, uI_self]
  show H1[adr E t o]? = some (vp_cell _ _)
  rw [e1]
  show some ((vp_cell _ _).setSlot _ _) = _
  rw [vp_cell_i, vp_cell_i, arrV_store]
  congr 2
  funext q
  by_cases hq : q = i.toNatClampNeg
  · subst hq
    simp [updV, upd]
  · simp [updV, upd, hq]
theorem r_zst {t o w : Nat} {i x : Int32} (hC : Ctx E M d N0 N1 R p s m meth c args) (ht : nthD tinfo t (99, 0) = (2, w)) (hv : vld0 n t o) (hR : Rep E H (I, J, n, A)) (hS : va_S (eA E) s.heap H locs) (hin : vp_in i w) (hx01 : x = 0 ∨ x = 1) (hdg : decode (mY M).2.1 pc = .ok (.bastore, 1))
    (kk : ∀ H1 locs1, Rep E H1 (uI I t o i.toNatClampNeg x, J, n, A) → va_S (eA E) s.heap H1 locs1 → W p (eL E) e R s m args below meth c H1 locs1 cells slots Z (F0 m (pc + 1) la rest)) : W p (eL E) e R s m args below meth c H locs cells slots Z (F0 m pc la (.int x :: .int i :: .ref (adr E t o) :: rest)) := by
  obtain ⟨hx, hb, hml, hown, hts, hini, hKK, -⟩ := hC
  have ha : (wsO E (I, J, n, A))[off t o]? = some (adr E t o, .inl (eC E 1, w, .inl (I t o))) := by rw [Rep_at (H := H) hv, cellE_bool ht]
  refine W.zast hx hb (hR.1 _ _ ha) ((hKK.1.2 1 _ rfl).1 w (fun j => .int (I t o j))) (fun q => by cases q) (by show ¬ (i < 0 ∨ (arrV _ _ _).slots.size ≤ _); rw [arrV_size]; exact hin) rfl rfl hdg fun H1 e1 z oq => ?_
  have hnx : narrow .boolean (.int x) = .int x := by rcases hx01 with rfl | rfl <;> rfl
  refine kk H1 _ (hR.of_set hv (fun a b h => cellE_congr (uI_ne h) (fun _ => rfl) rfl) z ?_ oq) (hS.put z oq (adr_in hv))
  rw [cellE_bool ht, uI_self]
  show H1[adr E t o]? = some (vp_cell _ _)
  rw [e1, hnx]
  show some ((vp_cell _ _).setSlot _ _) = _
  rw [vp_cell_i, vp_cell_i, arrV_store]
  congr 2
  funext q
  by_cases hq : q = i.toNatClampNeg
  · subst hq
    simp [updV, upd]
  · simp [updV, upd, hq]
theorem r_lst {o : Nat} {i : Int32} {x : Int64} (hC : Ctx E M d N0 N1 R p s m meth c args) (hv : vld0 n 14 o) (hR : Rep E H (I, J, n, A)) (hS : va_S (eA E) s.heap H locs) (hin : vp_in i (tlen 14 o)) (hdg : decode (mY M).2.1 pc = .ok (.lastore, 1))
    (kk : ∀ H1 locs1, Rep E H1 (I, uJ J o i.toNatClampNeg x, n, A) → va_S (eA E) s.heap H1 locs1 → W p (eL E) e R s m args below meth c H1 locs1 cells slots Z (F0 m (pc + 1) la rest)) : W p (eL E) e R s m args below meth c H locs cells slots Z (F0 m pc la (.long x :: .int i :: .ref (adr E 14 o) :: rest)) := by
  obtain ⟨hx, hb, hml, hown, hts, hini, hKK, -⟩ := hC
  have ha : (wsO E (I, J, n, A))[off 14 o]? = some (adr E 14 o, .inl (eC E 2, tlen 14 o, .inr (.inl (J o)))) := by rw [Rep_at (H := H) hv, cellE_long]
  refine W.last hx hb (hR.1 _ _ ha) ((hKK.1.2 2 _ rfl).1 (tlen 14 o) (fun j => .long (J o j))) (fun q => by cases q) (by show ¬ (i < 0 ∨ (arrV _ _ _).slots.size ≤ _); rw [arrV_size]; exact hin) rfl rfl hdg fun H1 e1 z oq => ?_
  refine kk H1 _ (hR.of_set hv (fun a b h => cellE_congr rfl (fun h14 => ?_) rfl) z ?_ oq) (hS.put z oq (adr_in hv))
  · subst h14
    have hb2 : b ≠ o := fun hq => h (by rw [hq])
    funext q
    simp [uJ, hb2]
  rw [cellE_long]
  show H1[adr E 14 o]? = some (vp_cell _ _)
  rw [e1]
  show some ((vp_cell _ _).setSlot _ _) = _
  rw [vp_cell_l, vp_cell_l, arrV_store]
  congr 2
  funext q
  by_cases hq : q = i.toNatClampNeg
  · subst hq
    simp [updV, uJ]
  · simp [updV, uJ, hq]
theorem r_ald {t o w ty0 : Nat} {i : Int32} {ty : FieldType} {f : Nat → Option Nat} {a : Nat} (hC : Ctx E M d N0 N1 R p s m meth c args) (hv : vld0 n t o) (hR : Rep E H (I, J, n, A)) (hce : cellE E t o I J A = .inl (eC E ty0, w, .inr (.inr (.inr (.inr f))))) (hty : (KKt E)[ty0]? = some (eC E ty0, ty)) (hrf : ty.isReference = true) (hin : vp_in i w) (hf : f i.toNatClampNeg = some a) (hdg : decode (mY M).2.1 pc = .ok (.aaload, 1))
    (kk : W p (eL E) e R s m args below meth c H locs cells slots Z (F0 m (pc + 1) la (.ref a :: rest))) : W p (eL E) e R s m args below meth c H locs cells slots Z (F0 m pc la (.int i :: .ref (adr E t o) :: rest)) := by
  obtain ⟨hx, hb, hml, hown, hts, hini, hKK, -⟩ := hC
  have ha : (wsO E (I, J, n, A))[off t o]? = some (adr E t o, .inl (eC E ty0, w, .inr (.inr (.inr (.inr f))))) := by rw [Rep_at (H := H) hv, hce]
  have hlt : i.toNatClampNeg < w := Nat.not_le.mp fun q => hin (Or.inr q)
  exact W.aald (v := .ref a) (ty := ty) hx hb (hR.1 _ _ ha) ((hKK.1.2 ty0 _ hty).1 w (fun j => va_rf (f j))) hrf (fun q => by cases q) (by show ¬ (i < 0 ∨ (arrV _ _ _).slots.size ≤ _); rw [arrV_size]; exact hin) (by show (arrV _ _ _).slots[_]? = _; rw [arrV_read _ _ hlt, hf]; rfl) rfl rfl hdg kk
theorem r_ast {t o w b : Nat} {i : Int32} {f : Nat → Option Nat} {I1 : SI} {A1 : SA} (hC : Ctx E M d N0 N1 R p s m meth c args) (hv : vld0 n t o) (hvb : vld0 n 3 b) (hR : Rep E H (I, J, n, A)) (hS : va_S (eA E) s.heap H locs) (hce : cellE E t o I J A = .inl (eC E 3, w, .inr (.inr (.inr (.inr f))))) (hce1 : cellE E t o I1 J A1 = .inl (eC E 3, w, .inr (.inr (.inr (.inr (va_up f i.toNatClampNeg (some (adr E 3 b)))))))) (hoth : ∀ a b, (a, b) ≠ (t, o) → cellE E a b I1 J A1 = cellE E a b I J A) (hin : vp_in i w) (hdg : decode (mY M).2.1 pc = .ok (.aastore, 1))
    (kk : ∀ H1 locs1, Rep E H1 (I1, J, n, A1) → va_S (eA E) s.heap H1 locs1 → W p (eL E) e R s m args below meth c H1 locs1 cells slots Z (F0 m (pc + 1) la rest)) : W p (eL E) e R s m args below meth c H locs cells slots Z (F0 m pc la (.ref (adr E 3 b) :: .int i :: .ref (adr E t o) :: rest)) := by
  obtain ⟨hx, hb, hml, hown, hts, hini, hKK, -⟩ := hC
  have ha : (wsO E (I, J, n, A))[off t o]? = some (adr E t o, .inl (eC E 3, w, .inr (.inr (.inr (.inr f))))) := by rw [Rep_at (H := H) hv, hce]
  have hbk : (wsO E (I, J, n, A))[off 3 b]? = some (adr E 3 b, .inr (1, (List.range (nthD ftab 1 []).length).map (fval E 1 3 b I A))) := by rw [Rep_at (H := H) hvb, cellE_obj (t := 3) (ci := 1) rfl]
  have hlt : i.toNatClampNeg < w := Nat.not_le.mp fun q => hin (Or.inr q)
  have h0 : ¬ i < 0 := fun q => hin (Or.inl q)
  obtain ⟨r', hr', cellV, g1, g2, g3, -⟩ := hR.1 _ _ hbk
  have hcls := (hKK.1.1 1 (RX1, TX1, 5) rfl).2
  obtain ⟨kA, comp, k1, k2, k3, -⟩ := (hKK.1.2 3 _ rfl).2
  have hcomp : comp = (eD E).1 1 := Option.some.inj (k3.symm.trans hcls.1)
  subst hcomp
  obtain ⟨kC, hkC, -⟩ := hcls.2
  refine W.aast hx hb (hR.1 _ _ ha) (fun q h => by cases h) (fun h => by cases h) k1 k2 rfl hkC ⟨h0, by show _ < (arrV _ _ _).slots.size; rw [arrV_size]; exact hlt⟩ g1 (fun q h => by rw [g3] at h; cases h) (by rw [g2]; exact hkC) (by rw [g2]; exact va_assign hcls) rfl rfl hdg fun H1 e1 z oq => ?_
  refine kk H1 _ (hR.of_set hv hoth z ?_ oq) (hS.put z oq (adr_in hv))
  rw [hce1]
  show H1[adr E t o]? = some (vp_cell _ _)
  rw [e1]
  show some ((vp_cell _ _).setSlot _ _) = _
  rw [vp_cell_q, vp_cell_q, arrV_store]
  congr 2
  funext q
  by_cases hq : q = i.toNatClampNeg
  · subst hq
    simp [updV, va_up, va_rf]
  · simp [updV, va_up, hq]
theorem r_len {t o ty0 : Nat} {x : vp_A} {ty : FieldType} (hC : Ctx E M d N0 N1 R p s m meth c args) (hv : vld0 n t o) (hR : Rep E H (I, J, n, A)) (hce : cellE E t o I J A = .inl (eC E ty0, x)) (hty : (KKt E)[ty0]? = some (eC E ty0, ty)) (hdg : decode (mY M).2.1 pc = .ok (.arraylength, 1))
    (kk : W p (eL E) e R s m args below meth c H locs cells slots Z (F0 m (pc + 1) la (.int (nI x.1) :: rest))) : W p (eL E) e R s m args below meth c H locs cells slots Z (F0 m pc la (.ref (adr E t o) :: rest)) := by
  obtain ⟨hx, hb, hml, hown, hts, hini, hKK, -⟩ := hC
  exact va_alen (D := eD E) hx hb hKK.1 hR.1 (off t o) ty0 (by rw [Rep_at (H := H) hv, hce]) hty rfl hdg kk
/-- one thing more -/
theorem Rep.push {H1 : Heap} {I1 : SI} {J1 : SJ} {A1 : SA} {t o : Nat} (hR : Rep E H (I, J, n, A)) (hn : n < 117) (hid : nthD allIds n (99, 0) = (t, o)) (hne : ∀ a b, (a, b) ≠ (t, o) → cellE E a b I1 J1 A1 = cellE E a b I J A) (hz : H1.size = H.size + 1) (he : va_at (eD E) vwCl (H.size, cellE E t o I1 J1 A1) H1) (oq : ∀ q : Nat, q < H.size → H1[q]? = H[q]?) : Rep E H1 (I1, J1, n + 1, A1) := by
  have hsz := hR.2.1 hn
  refine ⟨?_, fun _ => by rw [hz, hsz]; omega, hn⟩
  intro k q hk
  have hk1 : k < n + 1 := by
    have := (List.getElem?_eq_some_iff.mp hk).1
    rwa [wsO_len] at this
  rw [wsO_get hk1] at hk
  cases hk
  by_cases hkn : k = n
  · subst hkn
    unfold cellAt
    rw [hid, ← hsz]
    exact he
  · have hlt : k < n := by omega
    have h1 := hR.1 k _ (wsO_get hlt)
    have h4 := off_at k (by omega)
    have h5 := off_at n hn
    rw [hid] at h5
    unfold cellAt
    rw [hne _ _ (fun hq => by
      have e1 : (nthD allIds k (99, 0)).1 = t := congrArg Prod.fst hq
      have e2 : (nthD allIds k (99, 0)).2 = o := congrArg Prod.snd hq
      rw [e1, e2] at h4
      exact hkn (h4.symm.trans h5))]
    exact h1.kept (oq _ (by show eB E + k < H.size; omega))
theorem adr_new {t o : Nat} (hn : n < 117) (hid : nthD allIds n (99, 0) = (t, o)) : adr E t o = eB E + n := by
  have h5 := off_at n hn
  have h6 := vld0_at (n := n + 1) (t := t) (k := o) ⟨n, Nat.lt_succ_self n, hn, hid⟩
  rw [hid] at h5
  unfold adr
  rw [if_pos h6.2.2]
  exact congrArg (eB E + ·) h5
theorem S_push {H1 : Heap} (hS : va_S (eA E) s.heap H locs) (hz : H1.size = H.size + 1) (oq : ∀ q : Nat, q < H.size → H1[q]? = H[q]?) : va_S (eA E) s.heap H1 locs :=
  ⟨Nat.le_trans hS.1 (by omega), fun x h1 h2 => (oq x (Nat.lt_of_lt_of_le h1 hS.1)).trans (hS.2.1 x h1 h2), hS.2.2⟩
theorem r_new {idx ci t o : Nat} {pl : List Nat} (hC : Ctx E M d N0 N1 R p s m meth c args) (hf : okC (mP M).1 (idx, ci, pl) = true) (hR : Rep E H (I, J, n, A)) (hS : va_S (eA E) s.heap H locs) (hid : nthD allIds n (99, 0) = (t, o)) (ht : nthD tinfo t (99, 0) = (0, ci)) (hN0 : N0 ≤ n) (hN1 : n + 1 ≤ N1) (hdg : decode (mY M).2.1 pc = .ok (.new idx, 3))
    (kk : ∀ H1, Rep E H1 (zI I t o, J, n + 1, zA A t o) → va_S (eA E) s.heap H1 locs → W p (eL E) e R s m args below meth c H1 locs (n + 1 - N0) (sz (n + 1) - sz N0) Z (F0 m (pc + 3) la (.ref (adr E t o) :: rest))) : W p (eL E) e R s m args below meth c H locs (n - N0) (sz n - sz N0) Z (F0 m pc la rest) := by
  obtain ⟨hx, hb, hml, hown, hts, hini, hKK, hn01, hn117, hfr, hlo, hcl, hsl⟩ := hC
  have hn : n < 117 := by omega
  simp only [okC] at hf
  cases hvc : vwCl[ci]? with
  | none => rw [hvc] at hf; cases hf
  | some q =>
    obtain ⟨C, T, N⟩ := q
    rw [hvc] at hf
    simp only [Bool.and_eq_true, decide_eq_true_eq] at hf
    obtain ⟨⟨h1, h2⟩, h3⟩ := hf
    obtain ⟨f1, f2, ⟨ty0, f3, f6⟩, f4, f5⟩ := cls_ok hvc
    have hKn := hKK.1.1 ci _ hvc
    have hszn : sz (n + 1) = sz n + N := by
      show sz n + szOf (nthD allIds n (99, 0)) = _
      rw [hid]
      simp only [szOf, ht]
      rw [f1]
    have hm1 := sz_mono hN0
    have hm2 := sz_mono hN1
    have key := W.newcK (R := R) (cells := n - N0) (slots := sz n - sz N0) (n := N) hx hb (m := m) (p := p) (l := eL E) (e := e) (below := below) (meth := meth) (Q := Z) (H := H) (locs := locs) hown (hts _ (inG h1 rfl)) (hts _ (inG h2 rfl)) (hts _ (inG h3 rfl)) (g := F0 m pc la rest) rfl hdg (by omega) (by omega) hKn.2.1 rfl
    refine key fun H1 kC hkC e1 z1 o1 => ?_
    have hRe := hR.push (H1 := H1) (I1 := zI I t o) (J1 := J) (A1 := zA A t o) hn hid (fun a b h => cellE_congr (zI_ne h) (fun _ => rfl) (zA_ne h)) z1 (by
      rw [cellE_obj ht]
      refine ⟨_, hvc, (u_born ty0 hts f2 hKn hkC e1 f3).to fun j hj => ?_⟩
      rw [f6 j hj]
      have hj2 : j < (nthD ftab ci []).length := by rw [← f1]; exact hj
      show _ = vp_V _ j
      unfold vp_V
      rw [List.getD_eq_getElem?_getD, fs_get hj2]
      show _ = fval E ci t o (zI I t o) (zA A t o) j
      unfold fval
      generalize nthD (nthD ftab ci []) j (0, 0, 0) = q
      rcases q with ⟨_ | _ | _ | kd, t1, cd⟩ <;> simp [zA, zI]) o1
    have e2 : (.ref H.size : Value) = .ref (adr E t o) := by rw [hR.2.1 hn, adr_new hn hid]
    have hW := kk H1 hRe (S_push hS z1 o1)
    rw [show n - N0 + 1 = n + 1 - N0 by omega, show sz n - sz N0 + N = sz (n + 1) - sz N0 by omega]
    rw [← e2] at hW
    exact hW
theorem sz_step {t o w : Nat} (hid : nthD allIds n (99, 0) = (t, o)) (h : szOf (t, o) = w) : sz (n + 1) = sz n + w := by
  show sz n + szOf (nthD allIds n (99, 0)) = _
  rw [hid, h]
theorem tlen_len {t o kd w : Nat} (ht : nthD tinfo t (99, 0) = (kd, w)) (h3 : kd ≠ 3) (h0 : kd ≠ 0) : szOf (t, o) = w := by
  have h14 : t ≠ 14 := fun h => by
    subst h
    rw [t14i] at ht
    cases ht
    exact h3 rfl
  have hl : tlen t o = w := by
    unfold tlen
    split
    · exact absurd rfl h14
    · rw [ht]
  unfold szOf
  simp only [ht]
  exact hl
/-- a new array of ints (booleans, longs): its cell is what the store says -/
theorem r_newa {t o w : Nat} {at0 : ArrayType} {cnt : Int32} {ty0 : Nat} {z : vp_A} {I1 : SI} {J1 : SJ} (hC : Ctx E M d N0 N1 R p s m meth c args) (hac : Cond.arrayClass (newarray.typeOf at0) ∈ gw) (hR : Rep E H (I, J, n, A)) (hS : va_S (eA E) s.heap H locs) (hid : nthD allIds n (99, 0) = (t, o)) (hw : szOf (t, o) = w) (hw2 : w ≤ 2000) (hc : cnt = nI w) (hty : (KKt E)[ty0]? = some (eC E ty0, newarray.typeOf at0)) (hpr : ∀ C, newarray.typeOf at0 ≠ .object C)
    (hce : cellE E t o I1 J1 A = .inl (eC E ty0, z)) (hz : ∀ cA : ClassId, vp_cell cA z = arrV cA w (fun _ => defaultValue (newarray.typeOf at0))) (hcb : w * componentBytes (newarray.typeOf at0) ≤ 536870912) (hne : ∀ a b, (a, b) ≠ (t, o) → cellE E a b I1 J1 A = cellE E a b I J A) (hN0 : N0 ≤ n) (hN1 : n + 1 ≤ N1) (hdg : decode (mY M).2.1 pc = .ok (.newarray at0, 2))
    (kk : ∀ H1, Rep E H1 (I1, J1, n + 1, A) → va_S (eA E) s.heap H1 locs → W p (eL E) e R s m args below meth c H1 locs (n + 1 - N0) (sz (n + 1) - sz N0) Z (F0 m (pc + 2) la (.ref (adr E t o) :: rest))) : W p (eL E) e R s m args below meth c H locs (n - N0) (sz n - sz N0) Z (F0 m pc la (.int cnt :: rest)) := by
  obtain ⟨hx, hb, hml, hown, hts, hini, hKK, hn01, hn117, hfr, hlo, hcl, hsl⟩ := hC
  have hn : n < 117 := by omega
  have hszn := sz_step hid hw
  have hm1 := sz_mono hN0
  have hm2 := sz_mono hN1
  subst hc
  refine va_newaK (N := w) hx hb (hts _ hac) (g := F0 m pc la (.int (nI w) :: rest)) rfl hdg rfl (nI_pos (by omega)) (nI_clamp (by omega)) hcb (by omega) (by omega) rfl fun H1 cA e1 z1 o1 hAr hNm => ?_
  have hcA : cA = eC E ty0 := by
    have h2 := (hKK.1.2 ty0 _ hty).2
    cases hq : newarray.typeOf at0 <;> rw [hq] at h2 hNm hpr <;> first | exact Option.some.inj (hNm.symm.trans h2) | exact absurd rfl (hpr _)
  subst hcA
  have hRe := hR.push (H1 := H1) (I1 := I1) (J1 := J1) (A1 := A) hn hid hne z1 (by
    rw [hce]
    show H1[H.size]? = some (vp_cell _ _)
    rw [hz]
    exact e1) o1
  have e2 : (.ref H.size : Value) = .ref (adr E t o) := by rw [hR.2.1 hn, adr_new hn hid]
  have hW := kk H1 hRe (S_push hS z1 o1)
  rw [show n - N0 + 1 = n + 1 - N0 by omega, show sz n - sz N0 + w = sz (n + 1) - sz N0 by omega]
  rw [← e2] at hW
  exact hW
/-- a new array of books -/
theorem r_newb {idx t o w : Nat} {cnt : Int32} {I1 : SI} {A1 : SA} (hC : Ctx E M d N0 N1 R p s m meth c args) (hcl1 : Cond.classLink (mP M).1 idx RX1 ∈ gw) (hR : Rep E H (I, J, n, A)) (hS : va_S (eA E) s.heap H locs) (hid : nthD allIds n (99, 0) = (t, o)) (hw : szOf (t, o) = w) (hw2 : w ≤ 2000) (hc : cnt = nI w)
    (hce : cellE E t o I1 J A1 = .inl (eC E 3, w, .inr (.inr (.inr (.inr (fun _ => none)))))) (hne : ∀ a b, (a, b) ≠ (t, o) → cellE E a b I1 J A1 = cellE E a b I J A) (hN0 : N0 ≤ n) (hN1 : n + 1 ≤ N1) (hdg : decode (mY M).2.1 pc = .ok (.anewarray idx, 3))
    (kk : ∀ H1, Rep E H1 (I1, J, n + 1, A1) → va_S (eA E) s.heap H1 locs → W p (eL E) e R s m args below meth c H1 locs (n + 1 - N0) (sz (n + 1) - sz N0) Z (F0 m (pc + 3) la (.ref (adr E t o) :: rest))) : W p (eL E) e R s m args below meth c H locs (n - N0) (sz n - sz N0) Z (F0 m pc la (.int cnt :: rest)) := by
  obtain ⟨hx, hb, hml, hown, hts, hini, hKK, hn01, hn117, hfr, hlo, hcl, hsl⟩ := hC
  have hn : n < 117 := by omega
  have hszn := sz_step hid hw
  have hm1 := sz_mono hN0
  have hm2 := sz_mono hN1
  subst hc
  have hcw : (nI w).toNatClampNeg = w := nI_clamp (by omega)
  refine W.anew hx hb hown (hts _ hcl1) (va_AO.use hKK.2.2.1) (g := F0 m pc la (.int (nI w) :: rest)) rfl hdg rfl (nI_pos (by omega)) (by rw [hcw]; omega) (by omega) (by rw [hcw]; omega) fun cA kA comp g1 g2 g3 g4 => ?_
  rw [hcw]
  generalize hH1 : H.push ({ cls := cA, slots := Array.replicate w .null, vm := .none } : Cell) = H1
  have z1 : H1.size = H.size + 1 := by rw [← hH1, Array.size_push]
  have e1 : H1[H.size]? = some (arrV cA w (fun _ => .null)) := by rw [← hH1, Array.getElem?_push_size, ← arrV_new]
  have o1 : ∀ q : Nat, q < H.size → H1[q]? = H[q]? := fun q hq => by rw [← hH1, Array.getElem?_push, if_neg (Nat.ne_of_lt hq)]
  have hcA : cA = eC E 3 := by
    obtain ⟨kA2, comp2, k1, k2, k3, k4⟩ := (hKK.1.2 3 _ rfl).2
    exact Option.some.inj (g1.symm.trans k4)
  subst hcA
  have hRe := hR.push (H1 := H1) (I1 := I1) (J1 := J) (A1 := A1) hn hid hne z1 (by
    rw [hce]
    show H1[H.size]? = some (vp_cell _ _)
    rw [vp_cell_q]
    exact e1) o1
  have e2 : (.ref H.size : Value) = .ref (adr E t o) := by rw [hR.2.1 hn, adr_new hn hid]
  have hW := kk H1 hRe (S_push hS z1 o1)
  rw [show n - N0 + 1 = n + 1 - N0 by omega, show sz n - sz N0 + w = sz (n + 1) - sz N0 by omega]
  rw [← e2] at hW
  exact hW
end SOUND3
end
section
/-! SOUNDNESS, 5: statics, texts, calls -/
def sfv (E : EV) (j o : Nat) : Value := match j with
  | 0 => .ref (adr E 67 o)
  | _ => .int 0
def gsv (E : EV) (t : Nat) : Value := match Nat.beq t 59 with
  | true => .int 1
  | false => .ref (adr E t 0)
section SOUND4
variable {E : EV} {M : MD} {d N0 N1 : Nat} {p : Program} {e : Env} {R : Room} {s : State} {m : MethodId} {args : Array Value} {below : List Frame} {meth : Method} {c : Code} {H : Heap} {locs : List Loc} {cells slots : Nat} {Z : State → Prop} {pc : Nat} {la : Array Slot} {I : SI} {J : SJ} {n : Nat} {A : SA} {rest : List Value} {σ : ST}
theorem adr_st {t k : Nat} (h : 60 ≤ t) : adr E t k = eS E t k := by
  unfold adr
  rw [if_neg (by omega)]
theorem r_tab {t : Nat} {i : Int32} {k : Int32 → Prop} (hC : Ctx E M d N0 N1 R p s m meth c args) (hS : va_S (eA E) s.heap H locs) (hw : wtab t i k) (hdg : decode (mY M).2.1 pc = .ok (.iaload, 1))
    (kk : ∀ x, k x → W p (eL E) e R s m args below meth c H locs cells slots Z (F0 m (pc + 1) la (.int x :: rest))) : W p (eL E) e R s m args below meth c H locs cells slots Z (F0 m pc la (.int i :: .ref (adr E t 0) :: rest)) := by
  obtain ⟨hx, hb, hml, hown, hts, hini, hKK, -⟩ := hC
  obtain ⟨-, -, -, -, ⟨hz, -⟩, -⟩ := hKK
  unfold wtab at hw
  split at hw
  · rw [adr_st (by omega)]
    exact va_ti hx hb (hz 0 (by decide)).2 hS hw.1 rfl hdg (kk _ hw.2)
  · rw [adr_st (by omega)]
    exact va_ti hx hb (hz 1 (by decide)).2 hS hw.1 rfl hdg (kk _ hw.2)
  · rw [adr_st (by omega)]
    exact va_ti hx hb (hz 2 (by decide)).2 hS hw.1 rfl hdg (kk _ hw.2)
  · rw [adr_st (by omega)]
    exact va_ti hx hb (hz 3 (by decide)).2 hS hw.1 rfl hdg (kk _ hw.2)
  · rw [adr_st (by omega)]
    exact va_ti hx hb (hz 4 (by decide)).2 hS hw.1 rfl hdg (kk _ hw.2)
  · exact hw.elim
theorem r_scr {i : Int32} (hC : Ctx E M d N0 N1 R p s m meth c args) (hS : va_S (eA E) s.heap H locs) (hin : vp_in i (eN E)) (hdg : decode (mY M).2.1 pc = .ok (.iaload, 1))
    (kk : W p (eL E) e R s m args below meth c H locs cells slots Z (F0 m (pc + 1) la (.int (eX E i.toNatClampNeg) :: rest))) : W p (eL E) e R s m args below meth c H locs cells slots Z (F0 m pc la (.int i :: .ref (adr E 65 0) :: rest)) := by
  obtain ⟨hx, hb, hml, hown, hts, hini, hKK, -⟩ := hC
  obtain ⟨-, -, -, -, ⟨-, -, -, hX⟩, -, h7, h8, h9⟩ := hKK
  rw [adr_st (by omega)]
  exact va_sld (A := eA E) hx hb hX (Nat.lt_of_lt_of_le h7 h9) (Nat.not_le.mpr h7) hS hin hdg kk
theorem r_scl (hC : Ctx E M d N0 N1 R p s m meth c args) (hS : va_S (eA E) s.heap H locs) (hdg : decode (mY M).2.1 pc = .ok (.arraylength, 1))
    (kk : W p (eL E) e R s m args below meth c H locs cells slots Z (F0 m (pc + 1) la (.int (nI (eN E)) :: rest))) : W p (eL E) e R s m args below meth c H locs cells slots Z (F0 m pc la (.ref (adr E 65 0) :: rest)) := by
  obtain ⟨hx, hb, hml, hown, hts, hini, hKK, -⟩ := hC
  obtain ⟨-, -, -, -, ⟨-, -, -, hX⟩, -, h7, h8, h9⟩ := hKK
  rw [adr_st (by omega)]
  exact va_slen (A := eA E) hx hb hX (Nat.lt_of_lt_of_le h7 h9) (Nat.not_le.mpr h7) hS hdg kk
theorem slen_get : ∀ o, o < 9 → slen.getD o 0 = nthD slen o 0 := by decide +kernel
theorem stxt_get : ∀ o, o < 9 → stxt.getD o [] = nthD stxt o [] := by decide +kernel
theorem nthD_getD {α : Type} : ∀ (l : List α) (j : Nat) (d : α), l.getD j d = nthD l j d
  | [], j, d => by simp [nthD]
  | a :: l, 0, d => by simp [nthD]
  | a :: l, j + 1, d => by simpa [nthD] using nthD_getD l j d
theorem r_sby {o : Nat} {i : Int32} (hC : Ctx E M d N0 N1 R p s m meth c args) (hS : va_S (eA E) s.heap H locs) (ho : o < 9) (hin : vp_in i (nthD slen o 0)) (hdg : decode (mY M).2.1 pc = .ok (.baload, 1))
    (kk : W p (eL E) e R s m args below meth c H locs cells slots Z (F0 m (pc + 1) la (.int (nthD (nthD stxt o []) i.toNatClampNeg 0) :: rest))) : W p (eL E) e R s m args below meth c H locs cells slots Z (F0 m pc la (.int i :: .ref (adr E 67 o) :: rest)) := by
  obtain ⟨hx, hb, hml, hown, hts, hini, hKK, -⟩ := hC
  obtain ⟨-, -, -, -, ⟨-, -, hs9, -⟩, -⟩ := hKK
  rw [adr_st (by omega)]
  have h1 := (hs9.1 o ho).2.2.2
  rw [slen_get o ho] at h1
  exact va_tb hx hb h1 hS hin (by rw [stxt_get o ho, nthD_getD]) hdg kk
theorem r_sbl {o : Nat} (hC : Ctx E M d N0 N1 R p s m meth c args) (hS : va_S (eA E) s.heap H locs) (ho : o < 9) (hdg : decode (mY M).2.1 pc = .ok (.arraylength, 1))
    (kk : W p (eL E) e R s m args below meth c H locs cells slots Z (F0 m (pc + 1) la (.int (nI (nthD slen o 0)) :: rest))) : W p (eL E) e R s m args below meth c H locs cells slots Z (F0 m pc la (.ref (adr E 67 o) :: rest)) := by
  obtain ⟨hx, hb, hml, hown, hts, hini, hKK, -⟩ := hC
  obtain ⟨-, -, -, -, ⟨-, -, hs9, -⟩, -⟩ := hKK
  rw [adr_st (by omega)]
  have h1 := (hs9.1 o ho).2.2.2
  rw [slen_get o ho] at h1
  exact va_tlen hx hb h1 hS rfl hdg kk
theorem r_sgf {idx j o pl : Nat} {nest : Bool} (hC : Ctx E M d N0 N1 R p s m meth c args) (hf : okF (mP M).1 (idx, 100, j, nest, pl) = true) (hS : va_S (eA E) s.heap H locs) (ho : o < 9) (hdg : decode (mY M).2.1 pc = .ok (.getfield idx, 3))
    (kk : W p (eL E) e R s m args below meth c H locs cells slots Z (F0 m (pc + 3) la (sfv E j o :: rest))) : W p (eL E) e R s m args below meth c H locs cells slots Z (F0 m pc la (.ref (adr E 66 o) :: rest)) := by
  obtain ⟨hx, hb, hml, hown, hts, hini, hKK, -⟩ := hC
  obtain ⟨-, -, -, -, ⟨-, -, hs9, -⟩, -⟩ := hKK
  rw [adr_st (by omega)]
  simp only [okF, show Nat.beq 100 100 = true from rfl, Bool.and_eq_true, decide_eq_true_eq] at hf
  obtain ⟨⟨h1, -⟩, h3⟩ := hf
  have h2 := hs9.1 o ho
  match j, h1, h3, kk with
  | 0, h1, _, kk =>
    rw [if_pos rfl, if_pos rfl] at h1
    unfold sfv at kk
    rw [adr_st (by omega)] at kk
    exact vk_getf hx hb h2.2.2.1 hS hown (hts _ (inG h1 rfl)) (fun _ h => h) hdg kk
  | 1, h1, _, kk =>
    rw [if_neg (by decide), if_neg (by decide)] at h1
    exact vk_getf hx hb h2.2.1 hS hown (hts _ (inG h1 rfl)) (fun _ h => h) hdg kk
  | j + 2, _, h3, _ => omega
theorem r_gst {idx t pl : Nat} {nest : Bool} (hC : Ctx E M d N0 N1 R p s m meth c args) (hf : okS (mP M).1 (idx, t, nest, pl) = true) (hS : va_S (eA E) s.heap H locs) (hdg : decode (mY M).2.1 pc = .ok (.getstatic idx, 3))
    (kk : W p (eL E) e R s m args below meth c H locs cells slots Z (F0 m (pc + 3) la (gsv E t :: rest))) : W p (eL E) e R s m args below meth c H locs cells slots Z (F0 m pc la rest) := by
  obtain ⟨hx, hb, hml, hown, hts, hini, hKK, -⟩ := hC
  obtain ⟨-, hnw, -, -, ⟨hz, hcs, -⟩, -⟩ := hKK
  simp only [okS] at hf
  unfold gsv at kk
  cases ht : Nat.beq t 59 with
  | true =>
    rw [ht] at hf kk
    simp only [Bool.and_eq_true, decide_eq_true_eq] at hf
    exact va_gets hx hb hcs hS hown (hts _ (inG hf.2 rfl)) (fun _ h => h) hdg kk
  | false =>
    rw [ht] at hf kk
    simp only [Bool.and_eq_true, decide_eq_true_eq] at hf
    obtain ⟨⟨h1, h2⟩, h3⟩ := hf
    have hz1 := (hz (t - 60) (by omega)).1
    rw [show 60 + (t - 60) = t by omega] at hz1
    rw [adr_st h1] at kk
    cases nest with
    | true =>
      rw [if_pos rfl] at h3
      exact va_getsN hx hb hz1 hS hown (va_Nw.use rfl (hnw _ (inN (of_decide_eq_true h3) rfl))) (fun _ h => h) hdg kk
    | false =>
      rw [if_neg (by decide)] at h3
      exact va_gets hx hb hz1 hS hown (hts _ (inG (of_decide_eq_true h3) rfl)) (fun _ h => h) hdg kk
end SOUND4
end
section
/-! SOUNDNESS, 6: calls -/
theorem wsum_eq (E : EV) : ∀ st : List AV, ((st.map (conc E)).map fun v => v.category).sum = wsum st
  | [] => rfl
  | a :: r => by
    simp only [List.map_cons, List.sum_cons, wsum, conc_cat]
    rw [← wsum_eq E r]
theorem spl_eq : ∀ (na : Nat) (acc st as r : List AV), spl na acc st = (as, r) → as.length = acc.length + na → st = (as.take (as.length - acc.length)).reverse ++ r ∧ as.drop (as.length - acc.length) = acc
  | 0, acc, st, as, r, h, hl => by
    simp only [spl, Prod.mk.injEq] at h
    obtain ⟨rfl, rfl⟩ := h
    simp
  | na + 1, acc, [], as, r, h, hl => by
    simp only [spl, Prod.mk.injEq] at h
    obtain ⟨rfl, rfl⟩ := h
    omega
  | na + 1, acc, a :: st, as, r, h, hl => by
    simp only [spl] at h
    obtain ⟨h1, h2⟩ := spl_eq na (a :: acc) st as r h (by simp; omega)
    simp only [List.length_cons] at h1 h2
    have hk : as.length - acc.length = (as.length - (acc.length + 1)) + 1 := by omega
    have h3 : as[as.length - (acc.length + 1)]? = some a := by
      have h4 : (as.drop (as.length - (acc.length + 1)))[0]? = some a := by rw [h2]; rfl
      rw [List.getElem?_drop] at h4
      simpa using h4
    refine ⟨?_, ?_⟩
    · rw [hk, List.take_succ, h3]
      simp only [Option.toList_some, List.reverse_append, List.reverse_cons, List.reverse_nil, List.nil_append, List.singleton_append, List.cons_append]
      rw [← h1]
    · rw [hk, ← List.drop_drop, h2]
      rfl
theorem spl_st {na : Nat} {st as r : List AV} (h : spl na [] st = (as, r)) (hl : as.length = na) : st = as.reverse ++ r := by
  obtain ⟨h1, -⟩ := spl_eq na [] st as r h (by simpa using hl)
  simpa using h1
theorem spl_len : ∀ (na : Nat) (acc st as : List AV) (r : List AV), spl na acc st = (as, r) → na ≤ st.length → as.length = acc.length + na
  | 0, acc, st, as, r, h, _ => by
    simp only [spl, Prod.mk.injEq] at h
    rw [← h.1]; rfl
  | na + 1, acc, [], as, r, h, hl => by simp at hl
  | na + 1, acc, a :: st, as, r, h, hl => by
    simp only [spl] at h
    have := spl_len na (a :: acc) st as r h (by simpa using hl)
    rw [this]
    simp
    omega
theorem spl_short : ∀ (na : Nat) (acc st as : List AV) (r : List AV), spl na acc st = (as, r) → st.length < na → r = []
  | 0, acc, st, as, r, h, hl => by simp at hl
  | na + 1, acc, [], as, r, h, hl => by
    simp only [spl, Prod.mk.injEq] at h
    exact h.2.symm
  | na + 1, acc, a :: st, as, r, h, hl => by
    simp only [spl] at h
    exact spl_short na (a :: acc) st as r h (by simpa using hl)
section SOUND5
variable {E : EV} {M : MD} {d N0 N1 : Nat} {p : Program} {e : Env} {R : Room} {s : State} {m : MethodId} {args : Array Value} {below : List Frame} {meth : Method} {c : Code} {H : Heap} {locs : List Loc} {cells slots : Nat} {Z : State → Prop} {pc : Nat} {la : Array Slot} {rest st0 : List Value} {σ : ST}
theorem r_after {mc ms n1 : Nat} {Q1 : Option AV → ST → Prop} {aa : Array Value} (hr : va_Run p (eL E) e R s m args below meth c H locs cells slots mc ms (F0 m pc la st0) rest (QcA E n1 Q1 aa) (eA E)) (hS : va_S (eA E) s.heap H locs)
    (kk : ∀ (r : Option AV) (σ1 : ST) (H1 : Heap) (locs1 : List Loc), Q1 r σ1 → Rep E H1 σ1 → σ1.2.2.1 = n1 → (∀ a, r = some a → vok n1 a) → va_S (eA E) s.heap H1 locs1 → W p (eL E) e R s m args below meth c H1 locs1 (cells + mc) (slots + ms) Z (F0 m (pc + 3) la ((r.map (conc E)).toList ++ rest))) : W p (eL E) e R s m args below meth c H locs cells slots Z (F0 m pc la st0) := by
  intro T hT X
  obtain ⟨v, st₀, t, T', L, h0, X', hL, e1, e2, ⟨⟨r, σ1, hv, hq, hRe, hn1, hok⟩, hz, hk⟩, st⟩ := hr T hT X
  cases hv
  rw [h0] at hz hk
  obtain ⟨t2, a1, b1⟩ := kk r σ1 T'.heap (locs ++ L) hq (by rw [e1]; exact hRe) hn1 hok
    ⟨Nat.le_trans hS.1 (by rw [e1]; exact hz), fun q h1 h2 => by rw [e1, hk q (Nat.lt_of_lt_of_le h1 hS.1) h2]; exact hS.2.1 q h1 h2, fun q hq => by
      rcases List.mem_append.mp hq with h | h
      · exact hS.2.2 q h
      · exact hL q h⟩ T' rfl X'
  exact ⟨t2, st t2 a1, b1⟩
theorem pre_A {as : List AV} (hC : Ctx E M d N0 N1 R p s m meth c args) (hR : Rep E H σ) (hS : va_S (eA E) s.heap H locs) (hok : ∀ a ∈ as, vok σ.2.2.1 a) : ∀ U : State, U.heap = H → s.WarmedH U.vm → PcA E as σ (as.map (conc E)).toArray U := by
  intro U hU hW
  have hKK := hC.2.2.2.2.2.2.1
  have h9 := hKK.2.2.2.2.2.2.2.2
  refine ⟨rfl, KK.move hW (fun q hq => ?_) ?_ hKK, by rw [hU]; exact hR, hok⟩
  · rw [hU]
    exact hS.2.1 q (by omega) (Nat.not_le.mpr hq)
  · rw [hU]
    exact Nat.le_trans h9 hS.1
theorem gw_sub {Y : Yd} (hY : ywd Y ∈ gw) : GoodIn gw (ywd Y :: gw) := by
  intro w hw
  rcases List.mem_cons.mp hw with rfl | h
  · exact ⟨hY, gw_good hY⟩
  · exact ⟨h, gw_good h⟩
theorem okY_of {Y : Yd} {na : Nat} (h : okY Y na = true) : plainName Y.1.cls = true ∧ Y.1.cls ≠ "java/lang/invoke/MethodHandle" ∧ Y.1.cls ≠ "java/lang/invoke/VarHandle" ∧ (parseMethodDescriptor Y.1.desc).map (fun d => d.parameters.length) = some na ∧ Y.2.2.1 ≤ 21 := by
  simp only [okY, Bool.and_eq_true, decide_eq_true_eq] at h
  obtain ⟨⟨⟨⟨h1, h2⟩, h3⟩, h4⟩, h5⟩ := h
  exact ⟨h1, h2, h3, h4, h5⟩
theorem room_ok {d1 mc ms ml : Nat} (hd : d1 < d) (h1 : d ≤ R.frames) (h2 : 40 * d ≤ R.locals) (h3 : ml ≤ 21) : (rmd d1 mc ms).frames + 1 ≤ R.frames ∧ 8 + (ml + 11) + (rmd d1 mc ms).locals ≤ R.locals := by
  simp only [rmd]
  omega
/-- a call of an instance's method -/
theorem r_callV {idx na : Nat} {Y : Yd} {b : Nat} {as : List AV} {a0 : AV} {r : List AV} {n1 d1 : Nat} {nest : Bool} {Q1 : Option AV → ST → Prop} (hC : Ctx E M d N0 N1 R p s m meth c args) (hok : okY Y na = true) (hY : ywd Y ∈ gw)
    (hl : if nest = true then Cond.methodLinkNest (mP M).1 idx Y.1 "OutcropAges" ∈ nestW else Cond.methodLink (mP M).1 idx Y.1 ∈ gw) (hi : Cond.instanceMethod Y.1 ∈ gw) (hsel : Cond.selects Y.1.cls Y.1 Y.1 ∈ gw) (hin : Cond.initialized Y.1.cls ∈ gw)
    (ha0 : conc E a0 = .ref b) (hrc : ∃ cell : Cell, H[b]? = some cell ∧ cell.vm.isStatics = false ∧ s.vm.findClass Y.1.cls = some cell.cls) (hlen : as.length = na) (hla : la.size = (mY M).2.2.1) (hw : wsum r ≤ 8)
    (hR : Rep E H σ) (hS : va_S (eA E) s.heap H locs) (hvk : ∀ a ∈ a0 :: as, vok σ.2.2.1 a) (hN0 : N0 ≤ σ.2.2.1) (hd : d1 < d) (hn1 : n1 ≤ N1) (hT : Tri d1 Y n1 (a0 :: as) σ Q1) (hdg : decode (mY M).2.1 pc = .ok (.invokevirtual idx, 3))
    (kk : ∀ (v : Option AV) (σ1 : ST) (H1 : Heap) (locs1 : List Loc), Q1 v σ1 → Rep E H1 σ1 → σ1.2.2.1 = n1 → (∀ a, v = some a → vok n1 a) → va_S (eA E) s.heap H1 locs1 → W p (eL E) e R s m args below meth c H1 locs1 (n1 - N0) (sz n1 - sz N0) Z (F0 m (pc + 3) la ((v.toList ++ r).map (conc E)))) :
    W p (eL E) e R s m args below meth c H locs (σ.2.2.1 - N0) (sz σ.2.2.1 - sz N0) Z (F0 m pc la ((as.reverse ++ a0 :: r).map (conc E))) := by
  obtain ⟨hx, hb, hml, hown, hts, hini, hKK, hn01, hn117, hfr, hlo, hcl, hsl⟩ := id hC
  obtain ⟨t1, t2, t3⟩ := hT
  obtain ⟨y1, y2, y3, y4, y5⟩ := okY_of hok
  have hm1 := sz_mono hN0
  have hm2 := sz_mono t1
  have hm3 := sz_mono hn1
  have hst : ((as.reverse ++ a0 :: r).map (conc E)) = (as.map (conc E)).reverse ++ .ref b :: r.map (conc E) := by
    rw [List.map_append, List.map_reverse, List.map_cons, ha0]
  have hpre : ∀ U : State, U.heap = H → s.WarmedH U.vm → PcA E (a0 :: as) σ (Value.ref b :: as.map (conc E)).toArray U := by
    rw [← ha0, ← List.map_cons]
    exact pre_A hC hR hS hvk
  have hwr : 2 * (F0 m pc la ((as.reverse ++ a0 :: r).map (conc E))).monitorRoom + ((r.map (conc E)).map fun v => v.category).sum ≤ 8 := by
    rw [wsum_eq]
    show 2 * 0 + _ ≤ 8
    omega
  refine r_after (rest := r.map (conc E)) (Q1 := Q1) (n1 := n1) (mc := n1 - σ.2.2.1) (ms := sz n1 - sz σ.2.2.1) (aa := (Value.ref b :: as.map (conc E)).toArray) ?_ hS (fun v σ1 H1 locs1 g1 g2 g3 g4 g5 => ?_)
  · cases nest with
    | false =>
      rw [if_neg (by decide)] at hl
      exact va_runV (Ts := gw) (C := Y.1.cls) (own := (mP M).1) (bytes := Y.2.1) (maxL := Y.2.2.1) (ret := Y.2.2.2) (As := as.map (conc E)) ⟨hx, hb, hml, hown, hts⟩ (t3 E) (cwV na hts (fun w h => by
          simp only [wsV, List.mem_append, List.mem_cons, List.not_mem_nil, or_false] at h
          rcases h with (rfl | rfl | rfl | rfl) | h
          · exact ⟨hl, gw_good hl⟩
          · exact ⟨hi, gw_good hi⟩
          · exact ⟨hsel, gw_good hsel⟩
          · exact ⟨hin, gw_good hin⟩
          · exact gw_sub hY w (List.mem_cons.mpr h)) rfl rfl rfl ⟨rfl, y2, y3, y4⟩ (room_ok hd hfr hlo y5)) ⟨PcA.blind, hrc, hpre⟩ rfl (by rw [List.length_map]; exact hlen) hla hst hwr hdg ⟨by omega, by omega⟩
    | true =>
      rw [if_pos rfl] at hl
      exact va_runVN (Ts := gw) (C := Y.1.cls) (own := (mP M).1) (bytes := Y.2.1) (maxL := Y.2.2.1) (ret := Y.2.2.2) (As := as.map (conc E)) ⟨hx, hb, hml, hown, hts⟩ (t3 E) ⟨va_cnB na hts (gw_sub hY) rfl rfl rfl (hKK.2.1 _ hl) (hts _ hin) ⟨y2, y3, y4⟩ (room_ok hd hfr hlo y5), hts _ hi, hts _ hsel⟩ ⟨PcA.blind, hrc, hpre⟩ rfl (by rw [List.length_map]; exact hlen) hla hst hwr hdg ⟨by omega, by omega⟩
  · have hz := kk v σ1 H1 locs1 g1 g2 g3 g4 g5
    rw [show σ.2.2.1 - N0 + (n1 - σ.2.2.1) = n1 - N0 by omega, show sz σ.2.2.1 - sz N0 + (sz n1 - sz σ.2.2.1) = sz n1 - sz N0 by omega]
    rw [List.map_append] at hz
    cases v <;> exact hz
theorem r_callS {idx na : Nat} {Y : Yd} {as : List AV} {r : List AV} {n1 d1 : Nat} {nest : Bool} {Q1 : Option AV → ST → Prop} (hC : Ctx E M d N0 N1 R p s m meth c args) (hok : okY Y na = true) (hY : ywd Y ∈ gw)
    (hl : if nest = true then Cond.methodLinkNest (mP M).1 idx Y.1 "OutcropAges" ∈ nestW else Cond.methodLink (mP M).1 idx Y.1 ∈ gw) (hi : Cond.static Y.1 ∈ gw) (hin : Cond.initialized Y.1.cls ∈ gw) (hlen : as.length = na) (hla : la.size = (mY M).2.2.1) (hw : wsum r ≤ 8)
    (hR : Rep E H σ) (hS : va_S (eA E) s.heap H locs) (hvk : ∀ a ∈ as, vok σ.2.2.1 a) (hN0 : N0 ≤ σ.2.2.1) (hd : d1 < d) (hn1 : n1 ≤ N1) (hT : Tri d1 Y n1 as σ Q1) (hdg : decode (mY M).2.1 pc = .ok (.invokestatic idx, 3))
    (kk : ∀ (v : Option AV) (σ1 : ST) (H1 : Heap) (locs1 : List Loc), Q1 v σ1 → Rep E H1 σ1 → σ1.2.2.1 = n1 → (∀ a, v = some a → vok n1 a) → va_S (eA E) s.heap H1 locs1 → W p (eL E) e R s m args below meth c H1 locs1 (n1 - N0) (sz n1 - sz N0) Z (F0 m (pc + 3) la ((v.toList ++ r).map (conc E)))) :
    W p (eL E) e R s m args below meth c H locs (σ.2.2.1 - N0) (sz σ.2.2.1 - sz N0) Z (F0 m pc la ((as.reverse ++ r).map (conc E))) := by
  obtain ⟨hx, hb, hml, hown, hts, hini, hKK, hn01, hn117, hfr, hlo, hcl, hsl⟩ := id hC
  obtain ⟨t1, t2, t3⟩ := hT
  obtain ⟨y1, y2, y3, y4, y5⟩ := okY_of hok
  have hm1 := sz_mono hN0
  have hm2 := sz_mono t1
  have hm3 := sz_mono hn1
  have hst : ((as.reverse ++ r).map (conc E)) = (as.map (conc E)).reverse ++ r.map (conc E) := by
    rw [List.map_append, List.map_reverse]
  have hwr : 2 * (F0 m pc la ((as.reverse ++ r).map (conc E))).monitorRoom + ((r.map (conc E)).map fun v => v.category).sum ≤ 8 := by
    rw [wsum_eq]
    show 2 * 0 + _ ≤ 8
    omega
  refine r_after (rest := r.map (conc E)) (Q1 := Q1) (n1 := n1) (mc := n1 - σ.2.2.1) (ms := sz n1 - sz σ.2.2.1) (aa := (as.map (conc E)).toArray) ?_ hS (fun v σ1 H1 locs1 g1 g2 g3 g4 g5 => ?_)
  · cases nest with
    | false =>
      rw [if_neg (by decide)] at hl
      exact va_runS (Ts := gw) (own := (mP M).1) (bytes := Y.2.1) (maxL := Y.2.2.1) (ret := Y.2.2.2) (As := as.map (conc E)) ⟨hx, hb, hml, hown, hts⟩ (t3 E) (va_cwS na hts (fun w h => by
          simp only [va_wsS, List.mem_append, List.mem_cons, List.not_mem_nil, or_false] at h
          rcases h with (rfl | rfl | rfl) | h
          · exact ⟨hl, gw_good hl⟩
          · exact ⟨hi, gw_good hi⟩
          · exact ⟨hin, gw_good hin⟩
          · exact gw_sub hY w (List.mem_cons.mpr h)) rfl rfl rfl ⟨y2, y3, y4⟩ (room_ok hd hfr hlo y5)) ⟨PcA.blind, pre_A hC hR hS hvk⟩ rfl (by rw [List.length_map]; exact hlen) hla hst hwr hdg ⟨by omega, by omega⟩
    | true =>
      rw [if_pos rfl] at hl
      exact va_runSN (Ts := gw) (own := (mP M).1) (bytes := Y.2.1) (maxL := Y.2.2.1) (ret := Y.2.2.2) (As := as.map (conc E)) ⟨hx, hb, hml, hown, hts⟩ (t3 E) ⟨va_cnB na hts (gw_sub hY) rfl rfl rfl (hKK.2.1 _ hl) (hts _ hin) ⟨y2, y3, y4⟩ (room_ok hd hfr hlo y5), hts _ hi, trivial⟩ ⟨PcA.blind, pre_A hC hR hS hvk⟩ rfl (by rw [List.length_map]; exact hlen) hla hst hwr hdg ⟨by omega, by omega⟩
  · have hz := kk v σ1 H1 locs1 g1 g2 g3 g4 g5
    rw [show σ.2.2.1 - N0 + (n1 - σ.2.2.1) = n1 - N0 by omega, show sz σ.2.2.1 - sz N0 + (sz n1 - sz σ.2.2.1) = sz n1 - sz N0 by omega]
    rw [List.map_append] at hz
    cases v <;> exact hz
theorem r_callI {idx na : Nat} {Y : Yd} {b : Nat} {as : List AV} {a0 : AV} {r : List AV} {n1 d1 : Nat} {nest : Bool} {Q1 : Option AV → ST → Prop} (hC : Ctx E M d N0 N1 R p s m meth c args) (hok : okY Y na = true) (hY : ywd Y ∈ gw) (hnm : Y.1.name = "<init>") (hrt : Y.2.2.2 = none)
    (hl : if nest = true then Cond.methodLinkNest (mP M).1 idx Y.1 "OutcropAges" ∈ nestW else Cond.methodLink (mP M).1 idx Y.1 ∈ gw) (hi : Cond.instanceMethod Y.1 ∈ gw) (hin : Cond.initialized Y.1.cls ∈ gw)
    (ha0 : conc E a0 = .ref b) (hlen : as.length = na) (hla : la.size = (mY M).2.2.1) (hw : wsum r ≤ 8)
    (hR : Rep E H σ) (hS : va_S (eA E) s.heap H locs) (hvk : ∀ a ∈ a0 :: as, vok σ.2.2.1 a) (hN0 : N0 ≤ σ.2.2.1) (hd : d1 < d) (hn1 : n1 ≤ N1) (hT : Tri d1 Y n1 (a0 :: as) σ Q1) (hdg : decode (mY M).2.1 pc = .ok (.invokespecial idx, 3))
    (kk : ∀ (v : Option AV) (σ1 : ST) (H1 : Heap) (locs1 : List Loc), Q1 v σ1 → Rep E H1 σ1 → σ1.2.2.1 = n1 → (∀ a, v = some a → vok n1 a) → va_S (eA E) s.heap H1 locs1 → W p (eL E) e R s m args below meth c H1 locs1 (n1 - N0) (sz n1 - sz N0) Z (F0 m (pc + 3) la ((v.toList ++ r).map (conc E)))) :
    W p (eL E) e R s m args below meth c H locs (σ.2.2.1 - N0) (sz σ.2.2.1 - sz N0) Z (F0 m pc la ((as.reverse ++ a0 :: r).map (conc E))) := by
  obtain ⟨hx, hb, hml, hown, hts, hini, hKK, hn01, hn117, hfr, hlo, hcl, hsl⟩ := id hC
  obtain ⟨t1, t2, t3⟩ := hT
  obtain ⟨y1, y2, y3, y4, y5⟩ := okY_of hok
  have hm1 := sz_mono hN0
  have hm2 := sz_mono t1
  have hm3 := sz_mono hn1
  have hst : ((as.reverse ++ a0 :: r).map (conc E)) = (as.map (conc E)).reverse ++ .ref b :: r.map (conc E) := by
    rw [List.map_append, List.map_reverse, List.map_cons, ha0]
  have hpre : ∀ U : State, U.heap = H → s.WarmedH U.vm → PcA E (a0 :: as) σ (Value.ref b :: as.map (conc E)).toArray U := by
    rw [← ha0, ← List.map_cons]
    exact pre_A hC hR hS hvk
  have hwr : 2 * (F0 m pc la ((as.reverse ++ a0 :: r).map (conc E))).monitorRoom + ((r.map (conc E)).map fun v => v.category).sum ≤ 8 := by
    rw [wsum_eq]
    show 2 * 0 + _ ≤ 8
    omega
  obtain ⟨yn, yb, ym, yr⟩ := Y
  simp only at hrt
  subst hrt
  refine r_after (rest := r.map (conc E)) (Q1 := Q1) (n1 := n1) (mc := n1 - σ.2.2.1) (ms := sz n1 - sz σ.2.2.1) (aa := (Value.ref b :: as.map (conc E)).toArray) ?_ hS (fun v σ1 H1 locs1 g1 g2 g3 g4 g5 => ?_)
  · cases nest with
    | false =>
      rw [if_neg (by decide)] at hl
      exact va_runI (Ts := gw) (own := (mP M).1) (bytes := yb) (maxL := ym) (As := as.map (conc E)) ⟨hx, hb, hml, hown, hts⟩ (t3 E) (cwI na hts (gw_sub hY) rfl rfl rfl (hts _ hin) (hts _ hl) (hts _ hi) hnm ⟨y2, y3, y4⟩ (room_ok hd hfr hlo y5)) ⟨PcA.blind, hpre⟩ rfl (by rw [List.length_map]; exact hlen) hla hst hwr hdg ⟨by omega, by omega⟩
    | true =>
      rw [if_pos rfl] at hl
      exact va_runIN (Ts := gw) (own := (mP M).1) (bytes := yb) (maxL := ym) (As := as.map (conc E)) ⟨hx, hb, hml, hown, hts⟩ (t3 E) ⟨va_cnB na hts (gw_sub hY) rfl rfl rfl (hKK.2.1 _ hl) (hts _ hin) ⟨y2, y3, y4⟩ (room_ok hd hfr hlo y5), hnm, hts _ hi⟩ ⟨PcA.blind, hpre⟩ rfl (by rw [List.length_map]; exact hlen) hla hst hwr hdg ⟨by omega, by omega⟩
  · have hz := kk v σ1 H1 locs1 g1 g2 g3 g4 g5
    rw [show σ.2.2.1 - N0 + (n1 - σ.2.2.1) = n1 - N0 by omega, show sz σ.2.2.1 - sz N0 + (sz n1 - sz σ.2.2.1) = sz n1 - sz N0 by omega]
    rw [List.map_append] at hz
    cases v <;> exact hz
end SOUND5
end
section
/-! SOUNDNESS, 7: the instructions on the store, together -/
section SOUND6
variable {X : Option (Nat × (Nat → Int32))} {E : EV} {M : MD} {d N0 N1 : Nat} {p : Program} {e : Env} {R : Room} {s : State} {m : MethodId} {args : Array Value} {below : List Frame} {meth : Method} {c : Code} {H : Heap} {locs : List Loc} {Z : State → Prop} {pc len : Nat} {la : Array Slot} {σ : ST} {ins : Instr} {tg : List Nat} {cv : Int32} {st : List AV} {k : List AV → ST → Prop}
theorem vok_cons {n : Nat} {a : AV} {r : List AV} (h1 : vok n a) (h2 : ∀ b ∈ r, vok n b) : ∀ b ∈ a :: r, vok n b := fun b hb => (List.mem_cons.mp hb).elim (fun h => h ▸ h1) (h2 b)
theorem vok_tail {n : Nat} {a : AV} {r : List AV} (h : ∀ b ∈ a :: r, vok n b) : ∀ b ∈ r, vok n b := fun b hb => h b (List.mem_cons_of_mem _ hb)
theorem vok_head {n : Nat} {a : AV} {r : List AV} (h : ∀ b ∈ a :: r, vok n b) : vok n a := h a List.mem_cons_self
theorem ac_int : Cond.arrayClass (newarray.typeOf .int) ∈ gw := by decide +kernel
theorem ac_bool : Cond.arrayClass (newarray.typeOf .boolean) ∈ gw := by decide +kernel
theorem ac_long : Cond.arrayClass (newarray.typeOf .long) ∈ gw := by decide +kernel
theorem tinfo_small : ∀ t, t < 51 → (nthD tinfo t (99, 0)).2 ≤ 1792 := by decide +kernel
theorem uA_self {A : SA} {t k j i : Nat} : uA A t k j t k i = if i = j then true else A t k i := by
  simp [uA]
theorem book_lt {n b : Nat} (h : vld0 n 3 b) : b < 12 := by
  obtain ⟨o, h1, h2, h3⟩ := h
  have h5 : ∀ o, o < 117 → (nthD allIds o (99, 0)).1 = 3 → (nthD allIds o (99, 0)).2 < 12 := by decide +kernel
  have h6 := h5 o (by omega)
  rw [h3] at h6
  exact h6 rfl
theorem book_vld : ∀ b, b < 12 → Nat.blt (off 3 b) 117 = true := by decide +kernel
theorem row_vld : ∀ o, o < 2 → ∀ j, j < 5 → Nat.blt (off 10 (5 * o + j)) 117 = true := by decide +kernel
theorem rows_lt {n t b w : Nat} (h : vld0 n t b) (ht : nthD tinfo t (99, 0) = (6, w)) : b < 2 ∧ w = 5 := by
  obtain ⟨o, h1, h2, h3⟩ := h
  have h5 : ∀ o, o < 117 → (nthD tinfo (nthD allIds o (99, 0)).1 (99, 0)).1 = 6 → (nthD allIds o (99, 0)).2 < 2 ∧ (nthD tinfo (nthD allIds o (99, 0)).1 (99, 0)).2 = 5 := by decide +kernel
  have h6 := h5 o (by omega)
  rw [h3, ht] at h6
  exact h6 rfl
theorem fix_len : ∀ t, t < 51 → (nthD tinfo t (99, 0)).1 = 4 → (nthD tinfo t (99, 0)).2 = 2 := by decide +kernel
set_option maxHeartbeats 4000000 in
set_option maxRecDepth 10000 in
theorem whp_sound (hC : Ctx E M d N0 N1 R p s m meth c args) (hX : XE X E) (hP : okP (mP M)) (hdg : decode (mY M).2.1 pc = .ok (ins, len)) (hk : chk (pc, ins, len, tg, cv) = true) (hw : whp X (mP M) (mI M) N1 ins st σ k) (hR : Rep E H σ) (hS : va_S (eA E) s.heap H locs) (hN0 : N0 ≤ σ.2.2.1) (hN1 : σ.2.2.1 ≤ N1) (hst : ∀ a ∈ st, vok σ.2.2.1 a)
    (kk : ∀ (st1 : List AV) (σ1 : ST) (H1 : Heap) (locs1 : List Loc), k st1 σ1 → Rep E H1 σ1 → va_S (eA E) s.heap H1 locs1 → N0 ≤ σ1.2.2.1 → σ1.2.2.1 ≤ N1 → σ.2.2.1 ≤ σ1.2.2.1 → (∀ a ∈ st1, vok σ1.2.2.1 a) → W p (eL E) e R s m args below meth c H1 locs1 (σ1.2.2.1 - N0) (sz σ1.2.2.1 - sz N0) Z (F0 m (pc + len) la (st1.map (conc E)))) :
    W p (eL E) e R s m args below meth c H locs (σ.2.2.1 - N0) (sz σ.2.2.1 - sz N0) Z (F0 m pc la (st.map (conc E))) := by
  obtain ⟨I, J, n, A⟩ := σ
  have hn117 : n ≤ 117 := hR.2.2
  simp only at hN0 hN1 hst kk ⊢
  obtain ⟨pF, pM, pW, pC, pS, pL, pI, pT⟩ := hP
  cases ins
  case getfield idx =>
    simp only [chk, decide_eq_true_eq] at hk
    subst hk
    simp only [whp] at hw
    split at hw
    · rename_i ci j nest pl hal
      have hf := List.all_eq_true.mp pF _ (alook_mem _ _ _ hal)
      split at hw
      · rename_i t o r
        have hvt := vok_head hst
        have hvr := vok_tail hst
        split at hw
        · rename_i hci
          have hci' : ci = 100 := Nat.eq_of_beq_eq_true hci
          subst hci'
          split at hw
          · rename_i ht
            have ht' : t = 66 := Nat.eq_of_beq_eq_true ht
            subst ht'
            have ho : o < 9 := by
              rcases vld_st hvt (show nthD tinfo 66 (99, 0) = (99, 0) from rfl) with ⟨h1, h2, -⟩ | ⟨-, -, h⟩
              · omega
              · exact h
            split at hw
            · exact r_sgf (j := 0) hC hf hS ho hdg (kk _ _ _ _ hw hR hS hN0 hN1 (Nat.le_refl _) (vok_cons (Or.inr (Or.inr ⟨by omega, by omega, ho⟩)) hvr))
            · rename_i hj
              refine r_sgf (j := j) hC hf hS ho hdg ?_
              have h2 := kk _ _ _ _ hw hR hS hN0 hN1 (Nat.le_refl _) (vok_cons (a := vi 0) trivial hvr)
              cases j with
              | zero => exact absurd rfl hj
              | succ j => exact h2
          · exact hw.elim
        · rename_i hci
          split at hw
          · rename_i cc ht
            split at hw
            · rename_i hcc
              have hcc' : cc = ci := Nat.eq_of_beq_eq_true hcc
              subst hcc'
              have hv0 := vld_obj hvt ht (show (0 : Nat) ≠ 99 by decide)
              split at hw
              · rename_i t1 cd hfe
                have hj : j < (nthD ftab cc []).length := nthD_lt hfe (fun h => by cases h)
                have hA : A t o j = true := by
                  cases hq : A t o j with
                  | true => rfl
                  | false => rw [hq] at hw; exact hw.elim
                rw [hA] at hw
                simp only at hw
                have hvr1 : vld0 n t1 (rtg cd o) ∧ k (vr t1 (rtg cd o) :: r) (I, J, n, A) := by
                  split at hw
                  · rename_i hn
                    have hn' : n = 117 := Nat.eq_of_beq_eq_true hn
                    subst hn'
                    refine ⟨?_, wref_eq hw⟩
                    obtain ⟨x, x1, x2, x3⟩ := hv0
                    have hra := ref_all x x1 j (Nat.lt_of_lt_of_le hj (flen_b cc))
                    rw [x3] at hra
                    simp only [ht, hfe] at hra
                    exact off_vld (by rw [← Nat.blt_eq]; exact hra trivial trivial) (Nat.le_refl _)
                  · split at hw
                    · rename_i hvb
                      exact ⟨off_vld (by rw [← Nat.blt_eq]; exact hvb) hn117, wref_eq hw⟩
                    · exact hw.elim
                refine r_get hC hf hci ht hv0 hR hdg ?_
                rw [fval_ref hj hfe, if_pos hA]
                exact kk _ _ _ _ hvr1.2 hR hS hN0 hN1 (Nat.le_refl _) (vok_cons (Or.inl hvr1.1) hvr)
              · rename_i hfe
                have hj : j < (nthD ftab cc []).length := nthD_lt hfe (fun h => by cases h)
                refine r_get hC hf hci ht hv0 hR hdg ?_
                rw [fval_int hj (by rw [hfe]; show (0 : Nat) ≠ 2; decide)]
                exact kk _ _ _ _ hw hR hS hN0 hN1 (Nat.le_refl _) (vok_cons (a := vi _) trivial hvr)
              · rename_i hfe
                have hj : j < (nthD ftab cc []).length := nthD_lt hfe (fun h => by cases h)
                refine r_get hC hf hci ht hv0 hR hdg ?_
                rw [fval_int hj (by rw [hfe]; show (1 : Nat) ≠ 2; decide)]
                exact kk _ _ _ _ hw hR hS hN0 hN1 (Nat.le_refl _) (vok_cons (a := vi _) trivial hvr)
              · exact hw.elim
            · exact hw.elim
          · exact hw.elim
      · exact hw.elim
    · exact hw.elim
  case putfield idx =>
    simp only [chk, decide_eq_true_eq] at hk
    subst hk
    simp only [whp] at hw
    split at hw
    · rename_i ci j nest pl hal
      have hf := List.all_eq_true.mp pF _ (alook_mem _ _ _ hal)
      split at hw
      · rename_i v t o r
        have hvv := vok_head hst
        have hvt := vok_head (vok_tail hst)
        have hvr := vok_tail (vok_tail hst)
        split at hw
        · rename_i cc ht
          split at hw
          · rename_i hcc
            have hcc' : cc = ci := Nat.eq_of_beq_eq_true hcc
            subst hcc'
            have hci : Nat.beq cc 100 = false := by
              cases hq : Nat.beq cc 100 with
              | false => rfl
              | true =>
                have h1 : cc = 100 := Nat.eq_of_beq_eq_true hq
                subst h1
                have h2 : ∀ t, t < 51 → (nthD tinfo t (99, 0)).1 = 0 → (nthD tinfo t (99, 0)).2 ≠ 100 := by decide +kernel
                exact absurd (by rw [ht]) (h2 t (tinfo_lt ht (show (0 : Nat) ≠ 99 by decide)) (by rw [ht]))
            have hv0 := vld_obj hvt ht (show (0 : Nat) ≠ 99 by decide)
            split at hw
            · rename_i hfe
              have hj : j < (nthD ftab cc []).length := nthD_lt hfe (fun h => by cases h)
              split at hw
              · rename_i x
                refine r_put (I1 := uI I t o j x) (A1 := A) (ty := .int) hC hf hci ht hv0 hR hS (fun C T N h => fk0 h hj (by rw [hfe])) rfl rfl ?_ ?_ (fun a b h => cellE_congr (uI_ne h) (fun _ => rfl) rfl) hdg (fun H1 locs1 g1 g2 => kk _ _ _ _ hw g1 g2 hN0 hN1 (Nat.le_refl _) hvr)
                · rw [fval_int hj (by rw [hfe]; show (0 : Nat) ≠ 2; decide)]
                  simp [uI, conc]
                · intro i hi
                  unfold fval
                  rw [show uI I t o j x t o i = I t o i from by simp [uI, hi]]
              · exact hw.elim
            · rename_i hfe
              have hj : j < (nthD ftab cc []).length := nthD_lt hfe (fun h => by cases h)
              split at hw
              · rename_i x
                obtain ⟨hx01, hw⟩ := hw
                refine r_put (I1 := uI I t o j x) (A1 := A) (ty := .boolean) hC hf hci ht hv0 hR hS (fun C T N h => fk1 h hj (by rw [hfe])) (by rcases hx01 with rfl | rfl <;> rfl) (by rcases hx01 with rfl | rfl <;> rfl) ?_ ?_ (fun a b h => cellE_congr (uI_ne h) (fun _ => rfl) rfl) hdg (fun H1 locs1 g1 g2 => kk _ _ _ _ hw g1 g2 hN0 hN1 (Nat.le_refl _) hvr)
                · rw [fval_int hj (by rw [hfe]; show (1 : Nat) ≠ 2; decide)]
                  simp [uI, conc]
                · intro i hi
                  unfold fval
                  rw [show uI I t o j x t o i = I t o i from by simp [uI, hi]]
              · exact hw.elim
            · rename_i t1 cd hfe
              have hj : j < (nthD ftab cc []).length := nthD_lt hfe (fun h => by cases h)
              split at hw
              · rename_i hini
                rw [Bool.and_eq_true] at hini
                split at hw
                · rename_i t2 o2
                  obtain ⟨⟨e1, e2⟩, hw⟩ := hw
                  subst e1
                  subst e2
                  obtain ⟨ty, hty, hrf⟩ : ∃ ty, (∀ C T N, vwCl[cc]? = some (C, T, N) → parseFieldDescriptor (T j).2.2.1 = some ty ∧ (T j).2.2.2 = true) ∧ isRf (some ty) = true := by
                    obtain ⟨C, T, N, h1, -⟩ := okF_link hf hci
                    obtain ⟨g1, g2⟩ := fk2 h1 hj (by rw [hfe])
                    cases hq : parseFieldDescriptor (T j).2.2.1 with
                    | none => rw [hq] at g1; cases g1
                    | some ty =>
                      rw [hq] at g1
                      refine ⟨ty, fun C1 T1 N1 h => ?_, g1⟩
                      rw [h1] at h
                      cases h
                      exact ⟨hq, g2⟩
                  have hnf : ∀ a : Nat, narrow ty (.ref a) = .ref a ∧ fits ty (.ref a) = true := by
                    intro a
                    cases ty <;> first | exact ⟨rfl, rfl⟩ | (simp [isRf] at hrf)
                  refine r_putF (A1 := uA A t o j) (ty := ty) (v := .ref (adr E t2 (rtg cd o))) hC hini.1 hf hci ht hv0 hR hS hty (by simpa using hini.2) (hnf _).1 (hnf _).2 ?_ ?_ (fun a b h => cellE_congr rfl (fun _ => rfl) (uA_ne h)) hdg (fun H1 locs1 g1 g2 => kk _ _ _ _ hw g1 g2 hN0 hN1 (Nat.le_refl _) hvr)
                  · rw [fval_ref hj hfe, uA_self, if_pos rfl, if_pos rfl]
                  · intro i hi
                    unfold fval
                    rw [uA_self, if_neg hi]
                · exact hw.elim
              · exact hw.elim
            · exact hw.elim
          · exact hw.elim
        · exact hw.elim
      · exact hw.elim
    · exact hw.elim
  case iaload =>
    simp only [chk, decide_eq_true_eq] at hk
    subst hk
    simp only [whp] at hw
    split at hw
    · rename_i i t o r
      have hvt := vok_head (vok_tail hst)
      have hvr := vok_tail (vok_tail hst)
      split at hw
      · rename_i w ht
        exact r_ild hC ht (vld_obj hvt ht (show (1 : Nat) ≠ 99 by decide)) hR hw.1 hdg (kk _ _ _ _ hw.2 hR hS hN0 hN1 (Nat.le_refl _) (vok_cons (a := vi _) trivial hvr))
      · rename_i w ht
        have hvs := vld_st hvt ht
        split at hw
        · rename_i ht65
          have ht' : t = 65 := Nat.eq_of_beq_eq_true ht65
          subst ht'
          have ho : o = 0 := by
            rcases hvs with ⟨-, -, h⟩ | ⟨h, -⟩
            · exact h
            · omega
          subst ho
          split at hw
          · rename_i L xs
            obtain ⟨hX1, hX2⟩ := hX
            rw [← hX1, ← hX2] at hw
            exact r_scr hC hS hw.1 hdg (kk _ _ _ _ hw.2 hR hS hN0 hN1 (Nat.le_refl _) (vok_cons (a := vi _) trivial hvr))
          · exact hw.elim
        · have ho : o = 0 := by
            rcases hvs with ⟨-, -, h⟩ | ⟨h1, h2, -⟩
            · exact h
            · exfalso
              unfold wtab at hw
              split at hw <;> first | omega | exact hw
          subst ho
          exact r_tab hC hS hw hdg (fun x hx => kk _ _ _ _ hx hR hS hN0 hN1 (Nat.le_refl _) (vok_cons (a := vi _) trivial hvr))
      · exact hw.elim
    · exact hw.elim
  case iastore =>
    simp only [chk, decide_eq_true_eq] at hk
    subst hk
    simp only [whp] at hw
    split at hw
    · rename_i x i t o r
      have hvt := vok_head (vok_tail (vok_tail hst))
      have hvr := vok_tail (vok_tail (vok_tail hst))
      split at hw
      · rename_i w ht
        exact r_ist hC ht (vld_obj hvt ht (show (1 : Nat) ≠ 99 by decide)) hR hS hw.1 hdg (fun H1 locs1 g1 g2 => kk _ _ _ _ hw.2 g1 g2 hN0 hN1 (Nat.le_refl _) hvr)
      · exact hw.elim
    · exact hw.elim
  case baload =>
    simp only [chk, decide_eq_true_eq] at hk
    subst hk
    simp only [whp] at hw
    split at hw
    · rename_i i t o r
      have hvt := vok_head (vok_tail hst)
      have hvr := vok_tail (vok_tail hst)
      split at hw
      · rename_i w ht
        exact r_zld hC ht (vld_obj hvt ht (show (2 : Nat) ≠ 99 by decide)) hR hw.1 hdg (kk _ _ _ _ hw.2 hR hS hN0 hN1 (Nat.le_refl _) (vok_cons (a := vi _) trivial hvr))
      · rename_i w ht
        have hvs := vld_st hvt ht
        split at hw
        · rename_i ht67
          have ht' : t = 67 := Nat.eq_of_beq_eq_true ht67
          subst ht'
          have ho : o < 9 := by
            rcases hvs with ⟨h1, h2, -⟩ | ⟨-, -, h⟩
            · omega
            · exact h
          exact r_sby hC hS ho hw.1 hdg (kk _ _ _ _ hw.2 hR hS hN0 hN1 (Nat.le_refl _) (vok_cons (a := vi _) trivial hvr))
        · exact hw.elim
      · exact hw.elim
    · exact hw.elim
  case bastore =>
    simp only [chk, decide_eq_true_eq] at hk
    subst hk
    simp only [whp] at hw
    split at hw
    · rename_i x i t o r
      have hvt := vok_head (vok_tail (vok_tail hst))
      have hvr := vok_tail (vok_tail (vok_tail hst))
      split at hw
      · rename_i w ht
        exact r_zst hC ht (vld_obj hvt ht (show (2 : Nat) ≠ 99 by decide)) hR hS hw.1 hw.2.1 hdg (fun H1 locs1 g1 g2 => kk _ _ _ _ hw.2.2 g1 g2 hN0 hN1 (Nat.le_refl _) hvr)
      · exact hw.elim
    · exact hw.elim
  case laload =>
    simp only [chk, decide_eq_true_eq] at hk
    subst hk
    simp only [whp] at hw
    split at hw
    · rename_i i t o r
      have hvt := vok_head (vok_tail hst)
      have hvr := vok_tail (vok_tail hst)
      split at hw
      · rename_i ht
        have ht' : t = 14 := Nat.eq_of_beq_eq_true ht
        subst ht'
        exact r_lld hC (vld_obj hvt t14i (show (3 : Nat) ≠ 99 by decide)) hR hw.1 hdg (kk _ _ _ _ hw.2 hR hS hN0 hN1 (Nat.le_refl _) (vok_cons (a := vl _) trivial hvr))
      · exact hw.elim
    · exact hw.elim
  case lastore =>
    simp only [chk, decide_eq_true_eq] at hk
    subst hk
    simp only [whp] at hw
    split at hw
    · rename_i x i t o r
      have hvt := vok_head (vok_tail (vok_tail hst))
      have hvr := vok_tail (vok_tail (vok_tail hst))
      split at hw
      · rename_i ht
        have ht' : t = 14 := Nat.eq_of_beq_eq_true ht
        subst ht'
        exact r_lst hC (vld_obj hvt t14i (show (3 : Nat) ≠ 99 by decide)) hR hS hw.1 hdg (fun H1 locs1 g1 g2 => kk _ _ _ _ hw.2 g1 g2 hN0 hN1 (Nat.le_refl _) hvr)
      · exact hw.elim
    · exact hw.elim
  case aaload =>
    simp only [chk, decide_eq_true_eq] at hk
    subst hk
    simp only [whp] at hw
    split at hw
    · rename_i i t o r
      have hvt := vok_head (vok_tail hst)
      have hvr := vok_tail (vok_tail hst)
      split at hw
      · rename_i hn
        have hn' : n = 117 := Nat.eq_of_beq_eq_true hn
        subst hn'
        split at hw
        · rename_i w ht
          have hv0 := vld_obj hvt ht (show (4 : Nat) ≠ 99 by decide)
          obtain ⟨hin, hw⟩ := hw
          have hlt : i.toNatClampNeg < w := Nat.not_le.mp fun q => hin (Or.inr q)
          have hw2 : w = 2 := by
            have h1 := fix_len t (tinfo_lt ht (show (4 : Nat) ≠ 99 by decide)) (by rw [ht])
            rw [ht] at h1
            exact h1
          split at hw
          · rename_i hA
            exact r_ald (ty0 := 3) (ty := .object RX1) (f := fun j => if A t o j = true then some (adr E 3 (10 + j)) else none) (a := adr E 3 (10 + i.toNatClampNeg)) hC hv0 hR (cellE_fix ht) rfl rfl hin (by simp only [hA, if_true]) hdg (kk _ _ _ _ hw hR hS hN0 hN1 (Nat.le_refl _) (vok_cons (Or.inl (off_vld (by rw [← Nat.blt_eq]; exact book_vld _ (by omega)) (Nat.le_refl _))) hvr))
          · exact hw.elim
        · rename_i w ht
          have hv0 := vld_obj hvt ht (show (5 : Nat) ≠ 99 by decide)
          obtain ⟨hin, hlt, hw⟩ := hw
          split at hw
          · rename_i hA
            exact r_ald (ty0 := 3) (ty := .object RX1) (f := fun j => if A t o j = true then some (adr E 3 (I t o j).toNatClampNeg) else none) (a := adr E 3 (I t o i.toNatClampNeg).toNatClampNeg) hC hv0 hR (cellE_dyn ht) rfl rfl hin (by simp only [hA, if_true]) hdg (kk _ _ _ _ hw hR hS hN0 hN1 (Nat.le_refl _) (vok_cons (Or.inl (off_vld (by rw [← Nat.blt_eq]; exact book_vld _ hlt) (Nat.le_refl _))) hvr))
          · exact hw.elim
        · rename_i w ht
          have hv0 := vld_obj hvt ht (show (6 : Nat) ≠ 99 by decide)
          obtain ⟨ho, hw5⟩ := rows_lt hv0 ht
          obtain ⟨hin, hw⟩ := hw
          have hlt : i.toNatClampNeg < w := Nat.not_le.mp fun q => hin (Or.inr q)
          exact r_ald (ty0 := 4) (ty := .array .int) (f := fun j => if j < w then some (adr E 10 (5 * o + j)) else none) (a := adr E 10 (5 * o + i.toNatClampNeg)) hC hv0 hR (cellE_rows ht) rfl rfl hin (by simp only [hlt, if_true]) hdg (kk _ _ _ _ hw hR hS hN0 hN1 (Nat.le_refl _) (vok_cons (Or.inl (off_vld (by rw [← Nat.blt_eq]; exact row_vld o ho _ (by omega)) (Nat.le_refl _))) hvr))
        · exact hw.elim
      · exact hw.elim
    · exact hw.elim
  case aastore =>
    simp only [chk, decide_eq_true_eq] at hk
    subst hk
    simp only [whp] at hw
    split at hw
    · rename_i t2 b i t o r
      have hvb := vok_head hst
      have hvt := vok_head (vok_tail (vok_tail hst))
      have hvr := vok_tail (vok_tail (vok_tail hst))
      split at hw
      · rename_i ht2
        have ht' : t2 = 3 := Nat.eq_of_beq_eq_true ht2
        subst ht'
        have hvb0 := vld_obj hvb (show nthD tinfo 3 (99, 0) = (0, 1) from rfl) (show (0 : Nat) ≠ 99 by decide)
        split at hw
        · rename_i w ht
          have hv0 := vld_obj hvt ht (show (4 : Nat) ≠ 99 by decide)
          obtain ⟨hin, hb, hw⟩ := hw
          subst hb
          refine r_ast (I1 := I) (A1 := uA A t o i.toNatClampNeg) hC hv0 hvb0 hR hS (cellE_fix ht) ?_ (fun a b h => cellE_congr rfl (fun _ => rfl) (uA_ne h)) hin hdg (fun H1 locs1 g1 g2 => kk _ _ _ _ hw g1 g2 hN0 hN1 (Nat.le_refl _) hvr)
          rw [cellE_fix ht]
          congr 7
          funext q
          by_cases hq : q = i.toNatClampNeg
          · subst hq
            simp [va_up, uA]
          · simp [va_up, uA, hq]
        · rename_i w ht
          have hv0 := vld_obj hvt ht (show (5 : Nat) ≠ 99 by decide)
          obtain ⟨hin, hw⟩ := hw
          refine r_ast (I1 := uI I t o i.toNatClampNeg (nI b)) (A1 := uA A t o i.toNatClampNeg) hC hv0 hvb0 hR hS (cellE_dyn ht) ?_ (fun a b h => cellE_congr (uI_ne h) (fun _ => rfl) (uA_ne h)) hin hdg (fun H1 locs1 g1 g2 => kk _ _ _ _ hw g1 g2 hN0 hN1 (Nat.le_refl _) hvr)
          rw [cellE_dyn ht]
          congr 7
          funext q
          by_cases hq : q = i.toNatClampNeg
          · subst hq
            have hb12 := book_lt hvb0
            simp [va_up, uA, uI, nI_clamp (show b < 2 ^ 31 by omega)]
          · simp [va_up, uA, uI, hq]
        · exact hw.elim
      · exact hw.elim
    · exact hw.elim
  case arraylength =>
    simp only [chk, decide_eq_true_eq] at hk
    subst hk
    simp only [whp] at hw
    split at hw
    · rename_i t o r
      have hvt := vok_head hst
      have hvr := vok_tail hst
      split at hw
      · rename_i w ht
        exact r_len (ty0 := 0) (ty := .int) hC (vld_obj hvt ht (show (1 : Nat) ≠ 99 by decide)) hR (cellE_int ht) rfl hdg (kk _ _ _ _ hw hR hS hN0 hN1 (Nat.le_refl _) (vok_cons (a := vi _) trivial hvr))
      · rename_i w ht
        have h14 := t14 t (tinfo_lt ht (show (3 : Nat) ≠ 99 by decide)) (by rw [ht])
        subst h14
        exact r_len (ty0 := 2) (ty := .long) hC (vld_obj hvt ht (show (3 : Nat) ≠ 99 by decide)) hR cellE_long rfl hdg (kk _ _ _ _ hw hR hS hN0 hN1 (Nat.le_refl _) (vok_cons (a := vi _) trivial hvr))
      · rename_i w ht
        have hvs := vld_st hvt ht
        split at hw
        · rename_i ht65
          have ht' : t = 65 := Nat.eq_of_beq_eq_true ht65
          subst ht'
          have ho : o = 0 := by
            rcases hvs with ⟨-, -, h⟩ | ⟨h, -⟩
            · exact h
            · omega
          subst ho
          split at hw
          · rename_i L xs
            obtain ⟨hX1, hX2⟩ := hX
            rw [← hX1] at hw
            exact r_scl hC hS hdg (kk _ _ _ _ hw hR hS hN0 hN1 (Nat.le_refl _) (vok_cons (a := vi _) trivial hvr))
          · exact hw.elim
        · split at hw
          · rename_i ht67
            have ht' : t = 67 := Nat.eq_of_beq_eq_true ht67
            subst ht'
            have ho : o < 9 := by
              rcases hvs with ⟨h1, h2, -⟩ | ⟨-, -, h⟩
              · omega
              · exact h
            exact r_sbl hC hS ho hdg (kk _ _ _ _ hw hR hS hN0 hN1 (Nat.le_refl _) (vok_cons (a := vi _) trivial hvr))
          · exact hw.elim
      · exact hw.elim
    · exact hw.elim
  case new idx =>
    simp only [chk, decide_eq_true_eq] at hk
    subst hk
    simp only [whp] at hw
    split at hw
    · rename_i ci pl hal
      have hf := List.all_eq_true.mp pC _ (alook_mem _ _ _ hal)
      obtain ⟨t, o, h1, h2, h3, hw⟩ := hw
      exact r_new hC hf hR hS h1 h2 hN0 h3 hdg (fun H1 g1 g2 => kk _ _ _ _ hw g1 g2 (by show N0 ≤ n + 1; omega) h3 (by show n ≤ n + 1; omega) (vok_cons (Or.inl ⟨n, Nat.lt_succ_self n, by show n + 1 ≤ 117; exact g1.2.2, h1⟩) (fun b hb => (hst b hb).mono (by show n ≤ n + 1; omega) g1.2.2)))
    · exact hw.elim
  case newarray ty =>
    simp only [chk, decide_eq_true_eq] at hk
    subst hk
    simp only [whp] at hw
    split at hw
    · rename_i cn r
      have hvr := vok_tail hst
      split at hw
      · obtain ⟨t, o, w, h1, h2, h3, h4, hw⟩ := hw
        have hw3 := tinfo_small t (tinfo_lt h2 (show (1 : Nat) ≠ 99 by decide))
        rw [h2] at hw3
        exact r_newa (at0 := .int) (ty0 := 0) (z := (w, .inl (fun _ => 0))) (I1 := zI I t o) (J1 := J) hC ac_int hR hS h1 (tlen_len h2 (by decide) (by decide)) (by omega) h3 rfl (fun C h => by cases h) (by rw [cellE_int h2]; congr 4; funext q; simp [zI]) (fun cA => rfl) (by show w * 4 ≤ _; omega) (fun a b h => cellE_congr (zI_ne h) (fun _ => rfl) rfl) hN0 h4 hdg (fun H1 g1 g2 => kk _ _ _ _ hw g1 g2 (by show N0 ≤ n + 1; omega) h4 (by show n ≤ n + 1; omega) (vok_cons (Or.inl ⟨n, Nat.lt_succ_self n, by show n + 1 ≤ 117; exact g1.2.2, h1⟩) (fun b hb => (hvr b hb).mono (by show n ≤ n + 1; omega) g1.2.2)))
      · obtain ⟨t, o, w, h1, h2, h3, h4, hw⟩ := hw
        have hw3 := tinfo_small t (tinfo_lt h2 (show (2 : Nat) ≠ 99 by decide))
        rw [h2] at hw3
        exact r_newa (at0 := .boolean) (ty0 := 1) (z := (w, .inl (fun _ => 0))) (I1 := zI I t o) (J1 := J) hC ac_bool hR hS h1 (tlen_len h2 (by decide) (by decide)) (by omega) h3 rfl (fun C h => by cases h) (by rw [cellE_bool h2]; congr 4; funext q; simp [zI]) (fun cA => rfl) (by show w * 1 ≤ _; omega) (fun a b h => cellE_congr (zI_ne h) (fun _ => rfl) rfl) hN0 h4 hdg (fun H1 g1 g2 => kk _ _ _ _ hw g1 g2 (by show N0 ≤ n + 1; omega) h4 (by show n ≤ n + 1; omega) (vok_cons (Or.inl ⟨n, Nat.lt_succ_self n, by show n + 1 ≤ 117; exact g1.2.2, h1⟩) (fun b hb => (hvr b hb).mono (by show n ≤ n + 1; omega) g1.2.2)))
      · obtain ⟨o, h1, h3, h4, hw⟩ := hw
        have hw3 : tlen 14 o ≤ 300 := by
          unfold tlen
          simp only
          split <;> omega
        exact r_newa (at0 := .long) (ty0 := 2) (t := 14) (w := tlen 14 o) (z := (tlen 14 o, .inr (.inl (fun _ => 0)))) (I1 := I) (J1 := zJ J o) hC ac_long hR hS h1 (by simp only [szOf, t14i]) (by omega) h3 rfl (fun C h => by cases h) (by rw [cellE_long]; congr 5; funext q; simp [zJ]) (fun cA => rfl) (by show tlen 14 o * 8 ≤ _; omega) (fun a b h => cellE_congr rfl (fun h14 => by
          have hb2 : b ≠ o := fun hq => h (by rw [h14, hq])
          funext q
          simp [zJ, hb2]) rfl) hN0 h4 hdg (fun H1 g1 g2 => kk _ _ _ _ hw g1 g2 (by show N0 ≤ n + 1; omega) h4 (by show n ≤ n + 1; omega) (vok_cons (Or.inl ⟨n, Nat.lt_succ_self n, by show n + 1 ≤ 117; exact g1.2.2, h1⟩) (fun b hb => (hvr b hb).mono (by show n ≤ n + 1; omega) g1.2.2)))
      · exact hw.elim
    · exact hw.elim
  case anewarray idx =>
    simp only [chk, decide_eq_true_eq] at hk
    subst hk
    simp only [whp] at hw
    split at hw
    · rename_i ci pl hal
      have hf := List.all_eq_true.mp pC _ (alook_mem _ _ _ hal)
      split at hw
      · rename_i hci
        have hci' : ci = 1 := Nat.eq_of_beq_eq_true hci
        subst hci'
        simp only [okC] at hf
        have hvc : vwCl[1]? = some (RX1, TX1, 5) := rfl
        rw [hvc] at hf
        simp only [Bool.and_eq_true, decide_eq_true_eq] at hf
        split at hw
        · rename_i cn r
          have hvr := vok_tail hst
          obtain ⟨t, o, w, kd, h1, h2, h45, h3, h4, hw⟩ := hw
          have hk99 : kd ≠ 99 := by omega
          have hw3 := tinfo_small t (tinfo_lt h2 hk99)
          rw [h2] at hw3
          refine r_newb (I1 := zI I t o) (A1 := zA A t o) (w := w) hC (inG hf.1.1 rfl) hR hS h1 (tlen_len h2 (by omega) (by omega)) (by omega) h3 ?_ (fun a b h => cellE_congr (zI_ne h) (fun _ => rfl) (zA_ne h)) hN0 h4 hdg (fun H1 g1 g2 => kk _ _ _ _ hw g1 g2 (by show N0 ≤ n + 1; omega) h4 (by show n ≤ n + 1; omega) (vok_cons (Or.inl ⟨n, Nat.lt_succ_self n, by show n + 1 ≤ 117; exact g1.2.2, h1⟩) (fun b hb => (hvr b hb).mono (by show n ≤ n + 1; omega) g1.2.2)))
          rcases h45 with rfl | rfl
          · rw [cellE_fix h2]
            congr 7
            funext q
            simp [zA]
          · rw [cellE_dyn h2]
            congr 7
            funext q
            simp [zA]
        · exact hw.elim
      · exact hw.elim
    · exact hw.elim
  case getstatic idx =>
    simp only [chk, decide_eq_true_eq] at hk
    subst hk
    simp only [whp] at hw
    split at hw
    · rename_i t nest pl hal
      have hf := List.all_eq_true.mp pS _ (alook_mem _ _ _ hal)
      refine r_gst hC hf hS hdg ?_
      unfold gsv
      cases ht : Nat.beq t 59 with
      | true =>
        rw [ht] at hw
        exact kk _ _ _ _ hw hR hS hN0 hN1 (Nat.le_refl _) (vok_cons (a := vi 1) trivial hst)
      | false =>
        rw [ht] at hw
        simp only [okS, ht, Bool.and_eq_true, decide_eq_true_eq] at hf
        exact kk _ _ _ _ hw hR hS hN0 hN1 (Nat.le_refl _) (vok_cons (Or.inr (Or.inl ⟨hf.1.1, by omega, rfl⟩)) hst)
    · exact hw.elim
  case ldc2_w idx =>
    simp only [chk, decide_eq_true_eq] at hk
    subst hk
    simp only [whp] at hw
    split at hw
    · rename_i v pl hal
      have hf := List.all_eq_true.mp pL _ (alook_mem _ _ _ hal)
      simp only [okL, Bool.and_eq_true, decide_eq_true_eq] at hf
      obtain ⟨hx, hb, hml, hown, hts, -⟩ := hC
      exact lv_ldc2 hx hb hown (hts _ (inG hf.1 hf.2)) hdg (kk _ _ _ _ hw hR hS hN0 hN1 (Nat.le_refl _) (vok_cons (a := vl _) trivial hst))
    · exact hw.elim
  case ldc_w idx =>
    simp only [chk, decide_eq_true_eq] at hk
    subst hk
    simp only [whp] at hw
    split at hw
    · rename_i v pl hal
      have hf := List.all_eq_true.mp pI _ (alook_mem _ _ _ hal)
      simp only [okI, Bool.and_eq_true, decide_eq_true_eq] at hf
      obtain ⟨hx, hb, hml, hown, hts, -⟩ := hC
      exact lv_ldcw hx hb hown (hts _ (inG hf.1 hf.2)) hdg (kk _ _ _ _ hw hR hS hN0 hN1 (Nat.le_refl _) (vok_cons (a := vi _) trivial hst))
    · exact hw.elim
  case ldc idx =>
    simp only [chk, decide_eq_true_eq] at hk
    subst hk
    simp only [whp] at hw
    split at hw
    · rename_i i hal
      have hf := List.all_eq_true.mp pT _ (alook_mem _ _ _ hal)
      simp only [okT, Bool.and_eq_true, decide_eq_true_eq] at hf
      obtain ⟨hx, hb, hml, hown, hts, hini, hKK, -⟩ := hC
      have hz := hKK.2.2.2.2.2.1 i hf.1.2
      rw [hf.2, ← hf.1.1] at hz
      have h2 := kk _ _ _ _ hw hR hS hN0 hN1 (Nat.le_refl _) (vok_cons (a := vr 66 i) (Or.inr (Or.inr ⟨by omega, by omega, hf.1.2⟩)) hst)
      refine va_ldcS hx hb hown hz hdg ?_
      rw [← adr_st (E := E) (t := 66) (k := i) (by omega)]
      exact h2
    · exact hw.elim
  case idiv =>
    simp only [chk, decide_eq_true_eq] at hk
    subst hk
    simp only [whp] at hw
    split at hw
    · obtain ⟨hx, hb, -⟩ := hC
      exact lv_idiv hx hb hdg hw.1 (kk _ _ _ _ hw.2 hR hS hN0 hN1 (Nat.le_refl _) (vok_cons (a := vi _) trivial (vok_tail (vok_tail hst))))
    · exact hw.elim
  case irem =>
    simp only [chk, decide_eq_true_eq] at hk
    subst hk
    simp only [whp] at hw
    split at hw
    · obtain ⟨hx, hb, -⟩ := hC
      exact lv_irem hx hb hdg hw.1 (kk _ _ _ _ hw.2 hR hS hN0 hN1 (Nat.le_refl _) (vok_cons (a := vi _) trivial (vok_tail (vok_tail hst))))
    · exact hw.elim
  all_goals exact (hw : False).elim
end SOUND6
end
section
/-! SOUNDNESS, 8: calls, jumps, returns; the whole -/
section SOUND7
variable {X : Option (Nat × (Nat → Int32))} {E : EV} {M : MD} {d N0 N1 : Nat} {p : Program} {e : Env} {R : Room} {s : State} {m : MethodId} {args : Array Value} {below : List Frame} {meth : Method} {c : Code} {H : Heap} {locs : List Loc} {Z : State → Prop} {pc len : Nat} {la : Array Slot} {σ : ST} {ins : Instr} {tg : List Nat} {cv : Int32} {st : List AV} {k : List AV → ST → Prop}
theorem spl_full {na : Nat} {st as : List AV} {a : AV} {r : List AV} (h : spl na [] st = (as, a :: r)) : as.length = na ∧ st = as.reverse ++ a :: r := by
  have hl : na ≤ st.length := by
    rcases Nat.lt_or_ge st.length na with h1 | h1
    · have := spl_short na [] st as (a :: r) h h1
      cases this
    · exact h1
  have h2 := spl_len na [] st as (a :: r) h hl
  have h3 : as.length = na := by simpa using h2
  exact ⟨h3, spl_st h h3⟩
theorem vok_app {n : Nat} {as r : List AV} (h : ∀ a ∈ as.reverse ++ r, vok n a) : (∀ a ∈ as, vok n a) ∧ ∀ a ∈ r, vok n a :=
  ⟨fun a ha => h a (List.mem_append_left _ (List.mem_reverse.mpr ha)), fun a ha => h a (List.mem_append_right _ ha)⟩
theorem vok_res {n : Nat} {v : Option AV} {r : List AV} (h1 : ∀ a, v = some a → vok n a) (h2 : ∀ a ∈ r, vok n a) : ∀ a ∈ v.toList ++ r, vok n a := by
  intro a ha
  rcases List.mem_append.mp ha with h | h
  · cases v with
    | none => cases h
    | some b => exact h1 a (by rw [List.mem_singleton.mp h])
  · exact h2 a h
theorem recv_obj {t o cc : Nat} {C : String} {T : u_T} {N : Nat} {I : SI} {J : SJ} {n : Nat} {A : SA} (hC : Ctx E M d N0 N1 R p s m meth c args) (hR : Rep E H (I, J, n, A)) (ht : nthD tinfo t (99, 0) = (0, cc)) (hv : vld0 n t o) (hvc : vwCl[cc]? = some (C, T, N)) : ∃ cell : Cell, H[adr E t o]? = some cell ∧ cell.vm.isStatics = false ∧ s.vm.findClass C = some cell.cls :=
  va_recv (q := (C, T, N)) hC.2.2.2.2.2.2.1.1 hR.1 hvc (q0 := off t o) (by rw [Rep_at (H := H) hv, cellE_obj ht])
theorem cI_self {I : SI} {t k t1 k1 sp dp n : Nat} : cI I t k t1 k1 sp dp n t1 k1 = va_cpy (I t k) (I t1 k1) sp dp n := by
  funext q
  simp [cI]
set_option maxHeartbeats 4000000 in
theorem wcl_sound (hC : Ctx E M d N0 N1 R p s m meth c args) (hP : okP (mP M)) (hdg : decode (mY M).2.1 pc = .ok (ins, len)) (hk : chk (pc, ins, len, tg, cv) = true) (hw : wcl (mP M) d N1 ins st σ k) (hla : la.size = (mY M).2.2.1) (hR : Rep E H σ) (hS : va_S (eA E) s.heap H locs) (hN0 : N0 ≤ σ.2.2.1) (hN1 : σ.2.2.1 ≤ N1) (hst : ∀ a ∈ st, vok σ.2.2.1 a)
    (kk : ∀ (st1 : List AV) (σ1 : ST) (H1 : Heap) (locs1 : List Loc), k st1 σ1 → Rep E H1 σ1 → va_S (eA E) s.heap H1 locs1 → N0 ≤ σ1.2.2.1 → σ1.2.2.1 ≤ N1 → σ.2.2.1 ≤ σ1.2.2.1 → (∀ a ∈ st1, vok σ1.2.2.1 a) → W p (eL E) e R s m args below meth c H1 locs1 (σ1.2.2.1 - N0) (sz σ1.2.2.1 - sz N0) Z (F0 m (pc + len) la (st1.map (conc E)))) :
    W p (eL E) e R s m args below meth c H locs (σ.2.2.1 - N0) (sz σ.2.2.1 - sz N0) Z (F0 m pc la (st.map (conc E))) := by
  obtain ⟨I, J, n, A⟩ := σ
  have hn117 : n ≤ 117 := hR.2.2
  simp only at hN0 hN1 hst kk ⊢
  obtain ⟨pF, pM, pW, pC, pS, pL, pI, pT⟩ := hP
  obtain ⟨hx, hb, hml, hown, hts, hini, hKK, hn01, hN117, hfr, hlo, hcl, hsl⟩ := id hC
  have hm1 := sz_mono hN0
  have hm3 := sz_mono hN1
  have fin : ∀ {n1 : Nat} {r : List AV} {Q1 : Option AV → ST → Prop} (hvr : ∀ a ∈ r, vok n a) (hn : n ≤ n1) (h1 : n1 ≤ N1) (hQ : ∀ v σ1, Q1 v σ1 → k (v.toList ++ r) σ1) (v : Option AV) (σ1 : ST) (H1 : Heap) (locs1 : List Loc), Q1 v σ1 → Rep E H1 σ1 → σ1.2.2.1 = n1 → (∀ a, v = some a → vok n1 a) → va_S (eA E) s.heap H1 locs1 → W p (eL E) e R s m args below meth c H1 locs1 (n1 - N0) (sz n1 - sz N0) Z (F0 m (pc + len) la ((v.toList ++ r).map (conc E))) := by
    intro n1 r Q1 hvr hn h1 hQ v σ1 H1 locs1 g1 g2 g3 g4 g5
    subst g3
    have := kk (v.toList ++ r) σ1 H1 locs1 (hQ v σ1 g1) g2 g5 (by omega) h1 hn (vok_res g4 (fun a ha => (hvr a ha).mono hn (by omega)))
    exact this
  cases ins
  case invokevirtual idx =>
    simp only [chk, decide_eq_true_eq] at hk
    subst hk
    simp only [wcl] at hw
    split at hw
    · rename_i kd na ci Y pl hal
      have hme := alook_mem _ _ _ hal
      have hf := List.all_eq_true.mp pM _ hme
      have hWd := pW _ hme
      split at hw
      · rename_i as t o r hsp
        obtain ⟨hl, rfl⟩ := spl_full hsp
        obtain ⟨hva, hvr0⟩ := vok_app hst
        have hvt := vok_head hvr0
        have hvr := vok_tail hvr0
        split at hw
        · rename_i hw8
          have hw8' : wsum r ≤ 8 := Nat.le_of_ble_eq_true hw8
          split at hw
          · split at hw
            · rename_i cc ht
              split at hw
              · rename_i hcc
                have hcc' : cc = ci := Nat.eq_of_beq_eq_true hcc
                subst hcc'
                obtain ⟨d1, n1, e1, e2, hT⟩ := hw
                simp only [okM, Bool.and_eq_true, decide_eq_true_eq] at hf
                obtain ⟨⟨⟨⟨⟨f1, f2⟩, f3⟩, f4⟩, f5⟩, f6⟩ := hf
                have hv0 := vld_obj hvt ht (show (0 : Nat) ≠ 99 by decide)
                have hrc : ∃ cell : Cell, H[adr E t o]? = some cell ∧ cell.vm.isStatics = false ∧ s.vm.findClass Y.1.cls = some cell.cls := by
                  split at f2
                  · rename_i C T N hvc
                    rw [of_decide_eq_true f2]
                    exact recv_obj hC hR ht hv0 hvc
                  · cases f2
                exact r_callV (nest := false) (a0 := vr t o) (b := adr E t o) hC f1 (hWd (Or.inl (by show (0 : Nat) ≤ 5; omega))) (by rw [if_neg (by decide)]; exact inG f3 rfl) (inG f4 rfl) (inG f5 rfl) (inG f6 rfl) rfl hrc hl hla hw8' hR hS (vok_cons hvt hva) hN0 e1 e2 hT hdg (fin hvr hT.1 e2 (fun _ _ h => h))
              · exact hw.elim
            · exact hw.elim
          · split at hw
            · rename_i cc ht
              split at hw
              · rename_i hcc
                have hcc' : cc = ci := Nat.eq_of_beq_eq_true hcc
                subst hcc'
                obtain ⟨d1, n1, e1, e2, hT⟩ := hw
                simp only [okM, Bool.and_eq_true, decide_eq_true_eq] at hf
                obtain ⟨⟨⟨⟨⟨f1, f2⟩, f3⟩, f4⟩, f5⟩, f6⟩ := hf
                have hv0 := vld_obj hvt ht (show (0 : Nat) ≠ 99 by decide)
                have hrc : ∃ cell : Cell, H[adr E t o]? = some cell ∧ cell.vm.isStatics = false ∧ s.vm.findClass Y.1.cls = some cell.cls := by
                  split at f2
                  · rename_i C T N hvc
                    rw [of_decide_eq_true f2]
                    exact recv_obj hC hR ht hv0 hvc
                  · cases f2
                exact r_callV (nest := true) (a0 := vr t o) (b := adr E t o) hC f1 (hWd (Or.inl (by show (1 : Nat) ≤ 5; omega))) (by rw [if_pos rfl]; exact inN f3 rfl) (inG f4 rfl) (inG f5 rfl) (inG f6 rfl) rfl hrc hl hla hw8' hR hS (vok_cons hvt hva) hN0 e1 e2 hT hdg (fin hvr hT.1 e2 (fun _ _ h => h))
              · exact hw.elim
            · exact hw.elim
          · split at hw
            · rename_i ht66
              have ht' : t = 66 := Nat.eq_of_beq_eq_true ht66
              subst ht'
              have ho : o < 9 := by
                rcases vld_st hvt (show nthD tinfo 66 (99, 0) = (99, 0) from rfl) with ⟨h1, h2, -⟩ | ⟨-, -, h⟩
                · omega
                · exact h
              obtain ⟨d1, n1, e1, e2, hT⟩ := hw
              simp only [okM, Bool.and_eq_true, decide_eq_true_eq] at hf
              obtain ⟨⟨⟨⟨⟨f1, f2⟩, f3⟩, f4⟩, f5⟩, f6⟩ := hf
              have hrc : ∃ cell : Cell, H[adr E 66 o]? = some cell ∧ cell.vm.isStatics = false ∧ s.vm.findClass Y.1.cls = some cell.cls := by
                rw [f2, adr_st (by omega)]
                exact vk_recv hKK.2.2.2.2.1.2.2.1 ho hS
              exact r_callV (nest := false) (a0 := vr 66 o) (b := adr E 66 o) hC f1 (hWd (Or.inr rfl)) (by rw [if_neg (by decide)]; exact inG f3 rfl) (inG f4 rfl) (inG f5 rfl) (inG f6 rfl) rfl hrc hl hla hw8' hR hS (vok_cons hvt hva) hN0 e1 e2 hT hdg (fin hvr hT.1 e2 (fun _ _ h => h))
            · exact hw.elim
          · exact hw.elim
        · exact hw.elim
      · exact hw.elim
    · exact hw.elim
  case invokestatic idx =>
    simp only [chk, decide_eq_true_eq] at hk
    subst hk
    simp only [wcl] at hw
    split at hw
    · rename_i kd na ci Y pl hal
      have hme := alook_mem _ _ _ hal
      have hf := List.all_eq_true.mp pM _ hme
      have hWd := pW _ hme
      split at hw
      · split at hw
        · rename_i y x r
          split at hw
          · rename_i hw8
            have hw8' : wsum r ≤ 8 := Nat.le_of_ble_eq_true hw8
            simp only [okM, Bool.and_eq_true, decide_eq_true_eq] at hf
            obtain ⟨⟨⟨f3, f4⟩, f5⟩, f6⟩ := hf
            refine va_mmax hx hb (by rw [hml, hla]) hown (hts _ (inG f3 rfl)) (hts _ (inG f4 rfl)) (hts _ (inG f5 rfl)) (hts _ (inG f6 rfl)) (by omega) ?_ (by omega) (by omega) hdg (kk _ _ _ _ hw.2 hR hS hN0 hN1 (Nat.le_refl _) (vok_cons (a := vi _) trivial (vok_tail (vok_tail hst))))
            have := wsum_eq E r
            have h1 := hw.1
            show ((r.map (conc E)).map fun v => v.category).sum + 13 ≤ _
            omega
          · exact hw.elim
        · exact hw.elim
      · split at hw
        · rename_i y x r
          split at hw
          · rename_i hw8
            have hw8' : wsum r ≤ 8 := Nat.le_of_ble_eq_true hw8
            simp only [okM, Bool.and_eq_true, decide_eq_true_eq] at hf
            obtain ⟨⟨⟨f3, f4⟩, f5⟩, f6⟩ := hf
            refine va_mmin hx hb (by rw [hml, hla]) hown (hts _ (inG f3 rfl)) (hts _ (inG f4 rfl)) (hts _ (inG f5 rfl)) (hts _ (inG f6 rfl)) (by omega) ?_ (by omega) (by omega) hdg (kk _ _ _ _ hw.2 hR hS hN0 hN1 (Nat.le_refl _) (vok_cons (a := vi _) trivial (vok_tail (vok_tail hst))))
            have := wsum_eq E r
            have h1 := hw.1
            show ((r.map (conc E)).map fun v => v.category).sum + 13 ≤ _
            omega
          · exact hw.elim
        · exact hw.elim
      · split at hw
        · rename_i cn dp t1 o1 sp t o r
          split at hw
          · rename_i w ht
            split at hw
            · rename_i w1 ht1
              split at hw
              · rename_i hw8
                rw [Bool.and_eq_true] at hw8
                have hw8' : wsum r ≤ 8 := Nat.le_of_ble_eq_true hw8.1
                have hn' : n = 117 := Nat.eq_of_beq_eq_true hw8.2
                subst hn'
                obtain ⟨hd0, q1, q2, q3, q4, q5, hw⟩ := hw
                simp only [okM, Bool.and_eq_true, decide_eq_true_eq] at hf
                obtain ⟨⟨⟨f3, f4⟩, f5⟩, f6⟩ := hf
                have hv1 := vld_obj (vok_head (vok_tail (vok_tail hst))) ht1 (show (1 : Nat) ≠ 99 by decide)
                have hv := vld_obj (vok_head (vok_tail (vok_tail (vok_tail (vok_tail hst))))) ht (show (1 : Nat) ≠ 99 by decide)
                have hvr := vok_tail (vok_tail (vok_tail (vok_tail (vok_tail hst))))
                refine va_copyi (D := eD E) (ty := .int) (f := I t o) (g := I t1 o1) hx hb (by rw [hml, hla]) hown (hts _ (inG f3 rfl)) (hts _ (inG f4 rfl)) (hts _ (inG f5 rfl)) (hts _ (inG f6 rfl)) hKK.1 hR.1 wsO_D hS (off t o) (off t1 o1) 0 0 (by rw [Rep_at (H := H) hv, cellE_int ht]) (by rw [Rep_at (H := H) hv1, cellE_int ht1]) rfl rfl rfl q1 q2 q3 q4 q5 (fun _ _ => rfl) (by omega) ?_ hdg (fun H1 locs1 g1 _ g3 => ?_)
                · have := wsum_eq E r
                  show ((r.map (conc E)).map fun v => v.category).sum + (7 + 11) ≤ _
                  omega
                · refine kk _ _ _ _ hw ?_ g3 hN0 hN1 (Nat.le_refl _) hvr
                  have e1 : cellE E t1 o1 (cI I t o t1 o1 sp.toNatClampNeg dp.toNatClampNeg cn.toNatClampNeg) J A = .inl (eC E 0, w1, .inl (va_cpy (I t o) (I t1 o1) sp.toNatClampNeg dp.toNatClampNeg cn.toNatClampNeg)) := by rw [cellE_int ht1, cI_self]
                  rw [← e1, wsO_set (t := t1) (k := o1) hv1 (fun a b h => cellE_congr (cI_ne h) (fun _ => rfl) rfl)] at g1
                  exact ⟨g1, fun h => absurd h (by omega), hn117⟩
              · exact hw.elim
            · exact hw.elim
          · exact hw.elim
        · exact hw.elim
      · cases hsp : spl na [] st with
        | mk as r =>
          rw [hsp] at hw
          simp only at hw
          split at hw
          · rename_i hw8
            rw [Bool.and_eq_true] at hw8
            have hw8' : wsum r ≤ 8 := Nat.le_of_ble_eq_true hw8.1
            have hlen : as.length = na := Nat.eq_of_beq_eq_true hw8.2
            obtain ⟨d1, n1, e1, e2, hT⟩ := hw
            simp only [okM, Bool.and_eq_true, decide_eq_true_eq] at hf
            obtain ⟨⟨⟨f1, f3⟩, f4⟩, f5⟩ := hf
            have hst2 := spl_st hsp hlen
            subst hst2
            obtain ⟨hva, hvr⟩ := vok_app hst
            exact r_callS (nest := false) hC f1 (hWd (Or.inl (by show (2 : Nat) ≤ 5; omega))) (by rw [if_neg (by decide)]; exact inG f3 rfl) (inG f4 rfl) (inG f5 rfl) hlen hla hw8' hR hS hva hN0 e1 e2 hT hdg (fin hvr hT.1 e2 (fun _ _ h => h))
          · exact hw.elim
      · cases hsp : spl na [] st with
        | mk as r =>
          rw [hsp] at hw
          simp only at hw
          split at hw
          · rename_i hw8
            rw [Bool.and_eq_true] at hw8
            have hw8' : wsum r ≤ 8 := Nat.le_of_ble_eq_true hw8.1
            have hlen : as.length = na := Nat.eq_of_beq_eq_true hw8.2
            obtain ⟨d1, n1, e1, e2, hT⟩ := hw
            simp only [okM, Bool.and_eq_true, decide_eq_true_eq] at hf
            obtain ⟨⟨⟨f1, f3⟩, f4⟩, f5⟩ := hf
            have hst2 := spl_st hsp hlen
            subst hst2
            obtain ⟨hva, hvr⟩ := vok_app hst
            exact r_callS (nest := true) hC f1 (hWd (Or.inl (by show (3 : Nat) ≤ 5; omega))) (by rw [if_pos rfl]; exact inN f3 rfl) (inG f4 rfl) (inG f5 rfl) hlen hla hw8' hR hS hva hN0 e1 e2 hT hdg (fin hvr hT.1 e2 (fun _ _ h => h))
          · exact hw.elim
      · exact hw.elim
    · exact hw.elim
  case invokespecial idx =>
    simp only [chk, decide_eq_true_eq] at hk
    subst hk
    simp only [wcl] at hw
    split at hw
    · rename_i kd na ci Y pl hal
      have hme := alook_mem _ _ _ hal
      have hf := List.all_eq_true.mp pM _ hme
      have hWd := pW _ hme
      split at hw
      · rename_i as t o r hsp
        obtain ⟨hl, rfl⟩ := spl_full hsp
        obtain ⟨hva, hvr0⟩ := vok_app hst
        have hvt := vok_head hvr0
        have hvr := vok_tail hvr0
        split at hw
        · rename_i hw8
          have hw8' : wsum r ≤ 8 := Nat.le_of_ble_eq_true hw8
          split at hw
          · obtain ⟨d1, n1, e1, e2, hT⟩ := hw
            simp only [okM, Bool.and_eq_true, decide_eq_true_eq] at hf
            obtain ⟨⟨⟨⟨⟨f1, f2⟩, f2b⟩, f3⟩, f4⟩, f5⟩ := hf
            exact r_callI (nest := false) (a0 := vr t o) (b := adr E t o) hC f1 (hWd (Or.inl (by show (4 : Nat) ≤ 5; omega))) f2 f2b (by rw [if_neg (by decide)]; exact inG f3 rfl) (inG f4 rfl) (inG f5 rfl) rfl hl hla hw8' hR hS (vok_cons hvt hva) hN0 e1 e2 hT hdg (fin hvr hT.1 e2 (fun _ _ h => h))
          · obtain ⟨d1, n1, e1, e2, hT⟩ := hw
            simp only [okM, Bool.and_eq_true, decide_eq_true_eq] at hf
            obtain ⟨⟨⟨⟨⟨f1, f2⟩, f2b⟩, f3⟩, f4⟩, f5⟩ := hf
            exact r_callI (nest := true) (a0 := vr t o) (b := adr E t o) hC f1 (hWd (Or.inl (by show (5 : Nat) ≤ 5; omega))) f2 f2b (by rw [if_pos rfl]; exact inN f3 rfl) (inG f4 rfl) (inG f5 rfl) rfl hl hla hw8' hR hS (vok_cons hvt hva) hN0 e1 e2 hT hdg (fin hvr hT.1 e2 (fun _ _ h => h))
          · simp only [okM, Bool.and_eq_true, decide_eq_true_eq] at hf
            obtain ⟨⟨⟨f1, f3⟩, f4⟩, f5⟩ := hf
            subst f1
            have has : as = [] := List.length_eq_zero_iff.mp hl
            subst has
            refine W.objInit hx hb hown (hts _ (inG f3 rfl)) (hts _ (inG f4 rfl)) (hts _ (inG f5 rfl)) (g := F0 m pc la (([].reverse ++ vr t o :: r).map (conc E))) rfl (by rw [hml]; exact hla) (a := adr E t o) (rest := r.map (conc E)) rfl hdg (by omega) ?_ (kk _ _ _ _ hw.2 hR hS hN0 hN1 (Nat.le_refl _) hvr)
            have := wsum_eq E r
            have h1 := hw.1
            show 2 * 0 + ((r.map (conc E)).map fun v => v.category).sum + 12 ≤ _
            omega
          · exact hw.elim
        · exact hw.elim
      · exact hw.elim
    · exact hw.elim
  all_goals exact (hw : False).elim
end SOUND7
end
section
/-! SOUNDNESS, 9: a step, all steps, a method -/
theorem jmp_suf : ∀ (C : List EN) (t : Nat), jmp C t <:+ C
  | [], _ => by simp [jmp]
  | e :: r, t => by
    simp only [jmp]
    split
    · exact List.suffix_refl _
    · exact (jmp_suf r t).trans (List.suffix_cons _ _)
theorem jmp_head : ∀ (C : List EN) (t : Nat) (e : EN) (r : List EN), jmp C t = e :: r → e.1 = t
  | [], t, e, r, h => by simp [jmp] at h
  | a :: l, t, e, r, h => by
    simp only [jmp] at h
    split at h
    · rename_i hb
      cases h
      exact Nat.eq_of_beq_eq_true hb
    · exact jmp_head l t e r h
theorem wfc_suf {C l : List EN} (h : wfc C = true) (hs : l <:+ C) : wfc l = true := by
  obtain ⟨p, rfl⟩ := hs
  induction p with
  | nil => exact h
  | cons a p ih =>
    apply ih
    cases hq : p ++ l with
    | nil => rfl
    | cons b q =>
      rw [List.cons_append, hq] at h
      simp only [wfc, Bool.and_eq_true] at h
      exact h.2
theorem wfc_next {C r : List EN} {e e1 : EN} (h : wfc C = true) (hs : (e :: e1 :: r) <:+ C) : e1.1 = e.1 + e.2.2.1 := by
  have h1 := wfc_suf h hs
  simp only [wfc, Bool.and_eq_true, decide_eq_true_eq] at h1
  exact h1.1
theorem wsw_in {x : Int32} {go : Nat → Prop} {pc : Nat} : ∀ (os : List Int) (b : Nat) (ts : List Nat), swT pc os b ts = true → wsw x go ts → ∀ i o, os[i]? = some o → x = nI (b + i) → ∃ t : Nat, (pc : Int) + o = (t : Int) ∧ go t
  | [], b, ts, h1, h2, i, o, h3, h4 => by simp at h3
  | o1 :: os, b, [], h1, h2, i, o, h3, h4 => by simp [swT] at h1
  | o1 :: os, b, [v], h1, h2, i, o, h3, h4 => by simp [swT] at h1
  | o1 :: os, b, v :: t :: r, h1, h2, i, o, h3, h4 => by
    simp only [swT, Bool.and_eq_true, decide_eq_true_eq] at h1
    obtain ⟨⟨e1, e2⟩, e3⟩ := h1
    simp only [wsw] at h2
    cases i with
    | zero =>
      simp only [List.getElem?_cons_zero, Option.some.injEq] at h3
      subst h3
      exact ⟨t, e2, h2.1 (by rw [h4, e1]; rfl)⟩
    | succ i =>
      exact wsw_in os (b + 1) r e3 h2.2 i o (by simpa using h3) (by rw [h4]; congr 1; omega)
theorem wdf_out {x : Int32} {go : Prop} {pc : Nat} : ∀ (os : List Int) (b : Nat) (ts : List Nat), swT pc os b ts = true → wdf x go ts → (∀ i, i < os.length → ¬ x = nI (b + i)) → go
  | [], b, [], h1, h2, h3 => h2
  | [], b, _ :: _, h1, h2, h3 => by simp [swT] at h1
  | o1 :: os, b, [], h1, h2, h3 => by simp [swT] at h1
  | o1 :: os, b, [v], h1, h2, h3 => by simp [swT] at h1
  | o1 :: os, b, v :: t :: r, h1, h2, h3 => by
    simp only [swT, Bool.and_eq_true, decide_eq_true_eq] at h1
    obtain ⟨⟨e1, e2⟩, e3⟩ := h1
    simp only [wdf] at h2
    exact wdf_out os (b + 1) r e3 (h2 (by rw [e1]; exact h3 0 (by simp))) (fun i hi => by
      have := h3 (i + 1) (by simpa using hi)
      rw [show b + 1 + i = b + (i + 1) by omega]
      exact this)
theorem wsw_look {x : Int32} {go : Nat → Prop} {gd : Prop} {pc dt : Nat} {df : Int} (hdf : (pc : Int) + df = (dt : Int)) : ∀ (ps : List (Int × Int)) (ts : List Nat), swL pc ps ts = true → wsw x go ts → wdf x gd ts → (∃ t : Nat, (pc : Int) + Op.lookupswitch.offset ps df x.toInt = (t : Int) ∧ go t) ∨ (gd ∧ (pc : Int) + Op.lookupswitch.offset ps df x.toInt = (dt : Int))
  | [], [], h1, h2, h3 => Or.inr ⟨h3, by simpa [Op.lookupswitch.offset] using hdf⟩
  | [], _ :: _, h1, h2, h3 => by simp [swL] at h1
  | _ :: _, [], h1, h2, h3 => by simp [swL] at h1
  | _ :: _, [v], h1, h2, h3 => by simp [swL] at h1
  | (a, o) :: ps, v :: t :: r, h1, h2, h3 => by
    simp only [swL, Bool.and_eq_true, decide_eq_true_eq] at h1
    obtain ⟨⟨⟨e1, e2⟩, e3⟩, e4⟩ := h1
    simp only [wsw] at h2
    simp only [wdf] at h3
    have hv : (nI v).toInt = a := by rw [nI_toInt (by omega), e1]
    by_cases hx : x = nI v
    · refine Or.inl ⟨t, ?_, h2.1 hx⟩
      rw [Op.lookupswitch.offset_cons, if_pos (by rw [hx, hv])]
      exact e2
    · rw [lv_osw hx hv]
      exact wsw_look hdf ps r e4 h2.2 (h3 hx)
set_option maxHeartbeats 4000000 in
theorem wstep_sound {X : Option (Nat × (Nat → Int32))} {M : MD} {d N1 : Nat} {Q : Option AV → ST → Prop} {k : List EN → LV → List AV → ST → Prop} (hD : okD M) {e : EN} {rest : List EN} (hsuf : (e :: rest) <:+ mC M)
    (hk : ∀ sfx ls st σ, sfx <:+ mC M → k sfx ls st σ → ∃ e1 r1, sfx = e1 :: r1 ∧ Sat X M d N1 Q e1.1 ls st σ) {ls : LV} {st : List AV} {σ : ST} (hw : wstep X M d N1 Q k e rest ls st σ) : Sat X M d N1 Q e.1 ls st σ := by
  obtain ⟨hP, hwf, hchk, hdec, hE⟩ := hD
  have hmem : e ∈ mC M := hsuf.subset List.mem_cons_self
  have hck := List.all_eq_true.mp hchk e hmem
  have hdc := of_decide_eq_true (List.all_eq_true.mp hdec e hmem)
  have hrs : rest <:+ mC M := (List.suffix_cons _ _).trans hsuf
  intro E hX p e0 s m args below meth c R Z N0 hC hRet H locs la hR hS hL hN0 hN1 hst hls
  have seq : ∀ (ls1 : LV) (st1 : List AV) (σ1 : ST) (H1 : Heap) (locs1 : List Loc) (la1 : Array Slot), k rest ls1 st1 σ1 → Rep E H1 σ1 → va_S (eA E) s.heap H1 locs1 → HL E la1 (mY M).2.2.1 ls1 → N0 ≤ σ1.2.2.1 → σ1.2.2.1 ≤ N1 → (∀ a ∈ st1, vok σ1.2.2.1 a) → (∀ i a, lget ls1 i = some a → vok σ1.2.2.1 a) → W p (eL E) e0 R s m args below meth c H1 locs1 (σ1.2.2.1 - N0) (sz σ1.2.2.1 - sz N0) Z (F0 m (e.1 + e.2.2.1) la1 (st1.map (conc E))) := by
    intro ls1 st1 σ1 H1 locs1 la1 g1 g2 g3 g4 g5 g6 g7 g8
    obtain ⟨e1, r1, rfl, hs1⟩ := hk rest ls1 st1 σ1 hrs g1
    rw [← wfc_next hwf hsuf]
    exact hs1 E hX p e0 s m args below meth c R Z N0 hC hRet H1 locs1 la1 g2 g3 g4 g5 g6 g7 g8
  have jump : ∀ (t : Nat) (st1 : List AV), k (jmp (mC M) t) ls st1 σ → (∀ a ∈ st1, vok σ.2.2.1 a) → W p (eL E) e0 R s m args below meth c H locs (σ.2.2.1 - N0) (sz σ.2.2.1 - sz N0) Z (F0 m t la (st1.map (conc E))) := by
    intro t st1 g1 g7
    obtain ⟨e1, r1, he, hs1⟩ := hk (jmp (mC M) t) ls st1 σ (jmp_suf _ _) g1
    have h2 := hs1 E hX p e0 s m args below meth c R Z N0 hC hRet H locs la hR hS hL hN0 hN1 g7 hls
    rw [jmp_head _ _ _ _ he] at h2
    exact h2
  obtain ⟨hx, hb, -⟩ := id hC
  obtain ⟨pc, ins, len, tg, cv⟩ := e
  simp only at hdc seq ⊢
  have heap : ∀ {k1 : List AV → ST → Prop}, k1 = (fun st1 σ1 => k rest ls st1 σ1) → whp X (mP M) (mI M) N1 ins st σ k1 → W p (eL E) e0 R s m args below meth c H locs (σ.2.2.1 - N0) (sz σ.2.2.1 - sz N0) Z (F0 m pc la (st.map (conc E))) := by
    intro k1 hk1 h
    refine whp_sound (tg := tg) (cv := cv) hC hX hP hdc hck h hR hS hN0 hN1 hst (fun st1 σ1 H1 locs1 g1 g2 g3 g4 g5 g6 g7 => seq ls st1 σ1 H1 locs1 la (by rw [hk1] at g1; exact g1) g2 g3 hL g4 g5 g7 (fun i a h => (hls i a h).mono g6 ?_))
    exact g2.2.2
  have call : ∀ {k1 : List AV → ST → Prop}, k1 = (fun st1 σ1 => k rest ls st1 σ1) → wcl (mP M) d N1 ins st σ k1 → W p (eL E) e0 R s m args below meth c H locs (σ.2.2.1 - N0) (sz σ.2.2.1 - sz N0) Z (F0 m pc la (st.map (conc E))) := by
    intro k1 hk1 h
    refine wcl_sound (tg := tg) (cv := cv) hC hP hdc hck h hL.1 hR hS hN0 hN1 hst (fun st1 σ1 H1 locs1 g1 g2 g3 g4 g5 g6 g7 => seq ls st1 σ1 H1 locs1 la (by rw [hk1] at g1; exact g1) g2 g3 hL g4 g5 g7 (fun i a h => (hls i a h).mono g6 ?_))
    exact g2.2.2
  have simp0 : ∀ {ls1 : LV} {st1 : List AV}, sfun ins tg cv ls st = some (ls1, st1) → k rest ls1 st1 σ → W p (eL E) e0 R s m args below meth c H locs (σ.2.2.1 - N0) (sz σ.2.2.1 - sz N0) Z (F0 m pc la (st.map (conc E))) := by
    intro ls1 st1 h1 h2
    obtain ⟨g1, g2⟩ := sfun_ok (n := σ.2.2.1) h1 hst hls
    exact sfun_sound hx hb hdc hck h1 hL (fun la1 hL1 => seq ls1 st1 σ H locs la1 h2 hR hS hL1 hN0 hN1 g1 g2)
  cases ins
  case goto o =>
    simp only [chk, Bool.and_eq_true, decide_eq_true_eq] at hck
    exact lv_goto hx hb (by rw [hdc, hck.2]) hck.1 (jump _ _ hw hst)
  case ifCond cd o =>
    simp only [chk, Bool.and_eq_true, decide_eq_true_eq] at hck
    obtain ⟨h1, rfl⟩ := hck
    simp only [wstep] at hw
    split at hw
    · rename_i x r
      have hvr := vok_tail hst
      cases cd
      · exact lv_if_eq hx hb hdc h1 (fun h => jump _ _ (hw.1 h) hvr) (fun h => seq _ _ _ _ _ _ (hw.2 h) hR hS hL hN0 hN1 hvr hls)
      · exact lv_if_ne hx hb hdc h1 (fun h => jump _ _ (hw.1 h) hvr) (fun h => seq _ _ _ _ _ _ (hw.2 h) hR hS hL hN0 hN1 hvr hls)
      · exact lv_if_lt hx hb hdc h1 (fun h => jump _ _ (hw.1 h) hvr) (fun h => seq _ _ _ _ _ _ (hw.2 h) hR hS hL hN0 hN1 hvr hls)
      · exact lv_if_ge hx hb hdc h1 (fun h => jump _ _ (hw.1 h) hvr) (fun h => seq _ _ _ _ _ _ (hw.2 h) hR hS hL hN0 hN1 hvr hls)
      · exact lv_if_gt hx hb hdc h1 (fun h => jump _ _ (hw.1 h) hvr) (fun h => seq _ _ _ _ _ _ (hw.2 h) hR hS hL hN0 hN1 hvr hls)
      · exact lv_if_le hx hb hdc h1 (fun h => jump _ _ (hw.1 h) hvr) (fun h => seq _ _ _ _ _ _ (hw.2 h) hR hS hL hN0 hN1 hvr hls)
    · exact hw.elim
  case if_icmp cd o =>
    simp only [chk, Bool.and_eq_true, decide_eq_true_eq] at hck
    obtain ⟨h1, rfl⟩ := hck
    simp only [wstep] at hw
    split at hw
    · rename_i y x r
      have hvr := vok_tail (vok_tail hst)
      cases cd
      · exact lv_icmp_eq hx hb hdc h1 (fun h => jump _ _ (hw.1 h) hvr) (fun h => seq _ _ _ _ _ _ (hw.2 h) hR hS hL hN0 hN1 hvr hls)
      · exact lv_icmp_ne hx hb hdc h1 (fun h => jump _ _ (hw.1 h) hvr) (fun h => seq _ _ _ _ _ _ (hw.2 h) hR hS hL hN0 hN1 hvr hls)
      · exact lv_icmp_lt hx hb hdc h1 (fun h => jump _ _ (hw.1 h) hvr) (fun h => seq _ _ _ _ _ _ (hw.2 h) hR hS hL hN0 hN1 hvr hls)
      · exact lv_icmp_ge hx hb hdc h1 (fun h => jump _ _ (hw.1 h) hvr) (fun h => seq _ _ _ _ _ _ (hw.2 h) hR hS hL hN0 hN1 hvr hls)
      · exact lv_icmp_gt hx hb hdc h1 (fun h => jump _ _ (hw.1 h) hvr) (fun h => seq _ _ _ _ _ _ (hw.2 h) hR hS hL hN0 hN1 hvr hls)
      · exact lv_icmp_le hx hb hdc h1 (fun h => jump _ _ (hw.1 h) hvr) (fun h => seq _ _ _ _ _ _ (hw.2 h) hR hS hL hN0 hN1 hvr hls)
    · exact hw.elim
  case tableswitch df lo hi os =>
    simp only [wstep] at hw
    split at hw
    · rename_i x r
      have hvr := vok_tail hst
      split at hw
      · rename_i dt ts
        simp only [chk, Bool.and_eq_true, decide_eq_true_eq] at hck
        obtain ⟨⟨⟨⟨h1, h2⟩, h3⟩, h4⟩, h5⟩ := hck
        subst h2
        by_cases ho : x.toInt < 0 ∨ hi < x.toInt
        · refine lv_tableOut hx hb hdc ho h1 (jump _ _ (wdf_out os.toList 0 ts h5 hw.2 (fun i hi2 hq => ?_)) hvr)
          have hi3 : i < os.size := by simpa using hi2
          rw [Nat.zero_add] at hq
          rw [hq, nI_toInt (by omega)] at ho
          omega
        · have h6 : ¬ x.toInt < 0 := fun h => ho (Or.inl h)
          have h7 : ¬ hi < x.toInt := fun h => ho (Or.inr h)
          have hlt : x.toInt.toNat < os.size := by omega
          have hx2 : x = nI (0 + x.toInt.toNat) := by
            apply Int32.toInt_inj.mp
            rw [Nat.zero_add, nI_toInt (by omega)]
            omega
          obtain ⟨t, g1, g2⟩ := wsw_in os.toList 0 ts h5 hw.1 x.toInt.toNat os[x.toInt.toNat] (by simp [hlt]) hx2
          exact lv_tableIn (off := os[x.toInt.toNat]) hx hb hdc h6 h7 (by rw [Int.sub_zero]; exact Array.getElem?_eq_getElem hlt) g1 (jump _ _ g2 hvr)
      · exact hw.elim
    · exact hw.elim
  case lookupswitch df ps =>
    simp only [wstep] at hw
    split at hw
    · rename_i x r
      have hvr := vok_tail hst
      split at hw
      · rename_i dt ts
        simp only [chk, Bool.and_eq_true] at hck
        obtain ⟨⟨h1, h2⟩, h3⟩ := hck
        rcases wsw_look (of_decide_eq_true h1) ps.toList ts h2 hw.1 hw.2 with ⟨t, g1, g2⟩ | ⟨g1, g2⟩
        · exact lv_lookup hx hb hdc h3 rfl g1 (jump _ _ g2 hvr)
        · exact lv_lookup hx hb hdc h3 rfl g2 (jump _ _ g1 hvr)
      · exact hw.elim
    · exact hw.elim
  case ireturn =>
    simp only [chk, decide_eq_true_eq] at hck
    subst hck
    simp only [wstep] at hw
    split at hw
    · rename_i x
      obtain ⟨h1, h2, h3⟩ := hw
      have := hRet H locs la (some (vi x)) σ pc hR hS h1 h3 (fun a h => by cases h; trivial) h2 hdc
      rw [h1]
      exact this
    · exact hw.elim
  case return_ =>
    simp only [chk, decide_eq_true_eq] at hck
    subst hck
    simp only [wstep] at hw
    split at hw
    · obtain ⟨h2, h1, h3⟩ := hw
      have := hRet H locs la none σ pc hR hS h1 h3 (fun a h => by cases h) h2 hdc
      rw [h1]
      exact this
    · exact hw.elim
  case areturn =>
    simp only [chk, decide_eq_true_eq] at hck
    subst hck
    simp only [wstep] at hw
    split at hw
    · rename_i t o
      obtain ⟨h2, h1, h3⟩ := hw
      have := hRet H locs la (some (vr t o)) σ pc hR hS h1 h3 (fun a h => by cases h; rw [← h1]; exact vok_head hst) h2 hdc
      rw [h1]
      exact this
    · exact hw.elim
  case invokevirtual i => exact call rfl hw
  case invokestatic i => exact call rfl hw
  case invokespecial i => exact call rfl hw
  case getfield i => exact heap rfl hw
  case putfield i => exact heap rfl hw
  case iaload => exact heap rfl hw
  case iastore => exact heap rfl hw
  case baload => exact heap rfl hw
  case bastore => exact heap rfl hw
  case laload => exact heap rfl hw
  case lastore => exact heap rfl hw
  case aaload => exact heap rfl hw
  case aastore => exact heap rfl hw
  case arraylength => exact heap rfl hw
  case new i => exact heap rfl hw
  case newarray i => exact heap rfl hw
  case anewarray i => exact heap rfl hw
  case getstatic i => exact heap rfl hw
  case ldc2_w i => exact heap rfl hw
  case ldc_w i => exact heap rfl hw
  case ldc i => exact heap rfl hw
  case idiv => exact heap rfl hw
  case irem => exact heap rfl hw
  all_goals
    simp only [wstep] at hw
    split at hw
    · rename_i ls1 st1 hsf
      exact simp0 hsf hw
    · exact hw.elim
theorem wpn_sound {X : Option (Nat × (Nat → Int32))} {M : MD} {d N1 : Nat} {Q : Option AV → ST → Prop} (hD : okD M) (cuts : List Nat) : ∀ (f : Nat) (sfx : List EN) (ls : LV) (st : List AV) (σ : ST), sfx <:+ mC M → wpn X M d N1 Q cuts (Sat X M d N1 Q) f sfx ls st σ → ∃ e1 r1, sfx = e1 :: r1 ∧ Sat X M d N1 Q e1.1 ls st σ
  | 0, sfx, ls, st, σ, _, h => by
    cases sfx <;> exact (h : False).elim
  | f + 1, [], ls, st, σ, _, h => (h : False).elim
  | f + 1, e :: rest, ls, st, σ, hs, h => by
    refine ⟨e, rest, rfl, wstep_sound hD hs (fun sfx ls1 st1 σ1 h1 h2 => ?_) h⟩
    cases sfx with
    | nil => exact (h2 : False).elim
    | cons e1 r1 =>
      simp only at h2
      split at h2
      · exact ⟨e1, r1, rfl, h2⟩
      · exact wpn_sound hD cuts f (e1 :: r1) ls1 st1 σ1 h1 h2
theorem Sat.of {X : Option (Nat × (Nat → Int32))} {M : MD} {d N1 : Nat} {Q : Option AV → ST → Prop} (hD : okD M) (cuts : List Nat) (f : Nat) {pc : Nat} {ls : LV} {st : List AV} {σ : ST} (hw : wpn X M d N1 Q cuts (Sat X M d N1 Q) f (jmp (mC M) pc) ls st σ) : Sat X M d N1 Q pc ls st σ := by
  obtain ⟨e1, r1, h1, h2⟩ := wpn_sound hD cuts f _ ls st σ (jmp_suf _ _) hw
  rw [jmp_head _ _ _ _ h1] at h2
  exact h2
theorem padL_len : ∀ (n : Nat) (l : LV), (padL n l).length = n
  | 0, _ => rfl
  | n + 1, [] => by simp [padL, padL_len n []]
  | n + 1, a :: r => by simp [padL, padL_len n r]
theorem padL_get : ∀ (n : Nat) (l : LV) (i : Nat) (v : AV), lget (padL n l) i = some v → lget l i = some v
  | 0, l, i, v, h => by simp [padL, lget] at h
  | n + 1, [], 0, v, h => by simp [padL, lget] at h
  | n + 1, [], i + 1, v, h => by
    have := padL_get n [] i v (by simpa [padL, lget] using h)
    simp [lget] at this
  | n + 1, a :: r, 0, v, h => by simpa [padL, lget] using h
  | n + 1, a :: r, i + 1, v, h => by
    have := padL_get n r i v (by simpa [padL, lget] using h)
    simpa [lget] using this
theorem mkL_args (E : EV) : ∀ (as : List AV) (b i : Nat) (v : AV), lget (mkL as) i = some v → (b + i, conc E v) ∈ lv_args b (as.map (conc E))
  | [], b, i, v, h => by simp [mkL, lget] at h
  | .inl x :: r, b, 0, v, h => by
    simp only [mkL, lget, Option.some.injEq] at h
    subst h
    exact List.mem_cons_self
  | .inl x :: r, b, i + 1, v, h => by
    have := mkL_args E r (b + 1) i v (by simpa [mkL, lget] using h)
    rw [show b + (i + 1) = b + 1 + i by omega]
    exact List.mem_cons_of_mem _ this
  | .inr (.inr q) :: r, b, 0, v, h => by
    simp only [mkL, lget, Option.some.injEq] at h
    subst h
    exact List.mem_cons_self
  | .inr (.inr q) :: r, b, i + 1, v, h => by
    have := mkL_args E r (b + 1) i v (by simpa [mkL, lget] using h)
    rw [show b + (i + 1) = b + 1 + i by omega]
    refine List.mem_cons_of_mem _ ?_
    rw [if_neg (by rw [conc_cat]; simp [avc])]
    exact this
  | .inr (.inl x) :: r, b, 0, v, h => by
    simp only [mkL, lget, Option.some.injEq] at h
    subst h
    exact List.mem_cons_self
  | .inr (.inl x) :: r, b, 1, v, h => by simp [mkL, lget] at h
  | .inr (.inl x) :: r, b, i + 2, v, h => by
    have := mkL_args E r (b + 2) i v (by simpa [mkL, lget] using h)
    rw [show b + (i + 2) = b + 2 + i by omega]
    exact List.mem_cons_of_mem _ this
theorem mkL_len (E : EV) : ∀ as : List AV, (lg_sl (as.map (conc E))).length = (mkL as).length
  | [] => rfl
  | .inl x :: r => by
    have := mkL_len E r
    simp only [List.map_cons, lg_sl, List.flatMap_cons, List.length_append, mkL, List.length_cons] at this ⊢
    rw [← this, conc_cat]
    simp [avc, lg_sl]
    omega
  | .inr (.inr q) :: r => by
    have := mkL_len E r
    simp only [List.map_cons, lg_sl, List.flatMap_cons, List.length_append, mkL, List.length_cons] at this ⊢
    rw [← this, conc_cat]
    simp [avc, lg_sl]
    omega
  | .inr (.inl x) :: r => by
    have := mkL_len E r
    simp only [List.map_cons, lg_sl, List.flatMap_cons, List.length_append, mkL, List.length_cons] at this ⊢
    rw [← this, conc_cat]
    simp [avc, lg_sl]
    omega
theorem mkL_vok {n : Nat} : ∀ (as : List AV), (∀ a ∈ as, vok n a) → ∀ i a, lget (mkL as) i = some a → vok n a := by
  intro as
  induction as with
  | nil => intro _ i a h; simp [mkL, lget] at h
  | cons b r ih =>
    intro h i a hg
    have ih := ih (vok_tail h)
    rcases b with x | x | q
    · cases i with
      | zero => simp only [mkL, lget, Option.some.injEq] at hg; subst hg; trivial
      | succ i => exact ih i a (by simpa [mkL, lget] using hg)
    · match i, hg with
      | 0, hg => simp only [mkL, lget, Option.some.injEq] at hg; subst hg; trivial
      | 1, hg => simp [mkL, lget] at hg
      | i + 2, hg => exact ih i a (by simpa [mkL, lget] using hg)
    · cases i with
      | zero => simp only [mkL, lget, Option.some.injEq] at hg; subst hg; exact vok_head h
      | succ i => exact ih i a (by simpa [mkL, lget] using hg)
theorem HL_entry {E : EV} {as : List AV} {n : Nat} (h : (mkL as).length ≤ n) : HL E ((lg_sl (as.map (conc E)) ++ List.replicate (n - (lg_sl (as.map (conc E))).length) Slot.unset).toArray) n (padL n (mkL as)) := by
  have hl := lv_entry (as.map (conc E)) (n := n) (by rw [mkL_len]; exact h)
  refine ⟨hl.1, hl.2.1, padL_len _ _, fun i v hv => ?_⟩
  have := mkL_args E as 0 i v (padL_get _ _ _ _ hv)
  rw [Nat.zero_add] at this
  exact hl.2.2 (i, conc E v) this
set_option maxHeartbeats 4000000 in
theorem Tri.of {M : MD} {d N1 : Nat} {Q : Option AV → ST → Prop} {as : List AV} {σ : ST} (hD : okD M) (hn : σ.2.2.1 ≤ N1 ∧ N1 ≤ 117) (hl : (mkL as).length ≤ (mY M).2.2.1) (hs : Sat none M d N1 Q 0 (padL (mY M).2.2.1 (mkL as)) [] σ) : Tri d (mY M) N1 as σ Q := by
  refine ⟨hn.1, hn.2, fun E => ?_⟩
  obtain ⟨-, -, -, -, hE⟩ := hD
  simp only [okE, Bool.and_eq_true, decide_eq_true_eq] at hE
  obtain ⟨⟨hE1, hE2⟩, hE3⟩ := hE
  refine Met.ofW (cc := (mY M).2.1) (maxL := (mY M).2.2.1) (ret := (mY M).2.2.2) hE1 rfl ?_
  intro p e s m args below meth c s₁ B hml hv
  obtain ⟨rfl, hKK, hR, hok⟩ := hv
  have hx := B.exec
  have hb := B.bytes
  have hr := B.returns
  have hts := atoms_spec (ws := ywd (mY M) :: gw) B.pre
  have hown : s.vm.findClass (mP M).1 = some m.cls := by rw [hE2]; exact findClass_of_methodNamed B.named
  have hlocks := B.notSynchronized
  have hC : Ctx E M d σ.2.2.1 N1 (headSpec (ywd (mY M) :: gw) (rmd d (N1 - σ.2.2.1) (sz N1 - sz σ.2.2.1))).room p s m meth c (as.map (conc E)).toArray := by
    refine ⟨hx, hb, hml, hown, fun w h => hts w (List.mem_cons_of_mem _ h), fun h => ?_, hKK, hn.1, hn.2, Nat.le_refl _, Nat.le_refl _, Nat.le_refl _, Nat.le_refl _⟩
    rw [(name_of_methodNamed B.named B.method).1]
    rw [h] at hE3
    simpa using hE3
  have hRet : RetOk E M σ.2.2.1 N1 Q (headSpec (ywd (mY M) :: gw) (rmd d (N1 - σ.2.2.1) (sz N1 - sz σ.2.2.1))).room (MQ below (QcA E N1 Q) (as.map (conc E)).toArray s (N1 - σ.2.2.1) (sz N1 - sz σ.2.2.1) (eA E)) p e s m (as.map (conc E)).toArray below meth c := by
    intro H locs la v σ1 pc g1 g2 g3 g4 g5 g6 g7
    rcases v with _ | x | x | q
    · exact W.vret hx hb (hr.trans g6) (fun t ht hW => ⟨⟨none, σ1, rfl, g4, by rw [ht]; exact g1, g3, g5⟩, g2.F ht⟩) g2.2.2 g7
    · have hQ : ∀ t : State, t.heap = H → s.WarmedH t.vm → QcA E N1 Q (as.map (conc E)).toArray s (.returned (some (.int x))) t := fun t ht hW => ⟨⟨some (vi x), σ1, rfl, g4, by rw [ht]; exact g1, g3, g5⟩, g2.F ht⟩
      unfold rkOk rtOk at g6
      simp only at g6
      split at g6
      · rename_i hq
        exact W.iret hx hb (hr.trans hq) hQ g2.2.2 g7
      · rename_i hq
        exact W.zret hx hb (hr.trans hq) (by rcases g6 with rfl | rfl <;> rfl) hQ g2.2.2 g7
      · rename_i hq
        exact W.zret hx hb (hr.trans hq) g6 hQ g2.2.2 g7
      · rename_i hq
        exact W.zret hx hb (hr.trans hq) g6 hQ g2.2.2 g7
      · exact g6.elim
    · exact (g6 : False).elim
    · have hq : ∃ rt, (mY M).2.2.2 = some rt ∧ ((∃ n, rt = .object n) ∨ ∃ t, rt = .array t) := by
        have g6 : isRT (mY M).2.2.2 = true := g6
        unfold isRT at g6
        split at g6
        · exact ⟨_, by assumption, Or.inl ⟨_, rfl⟩⟩
        · exact ⟨_, by assumption, Or.inr ⟨_, rfl⟩⟩
        · cases g6
      obtain ⟨rt, h1, h2⟩ := hq
      refine W.aret (v := conc E (.inr (.inr q))) hx hb (hr.trans h1) h2 ?_ (fun t ht hW => ⟨⟨some (.inr (.inr q)), σ1, rfl, g4, by rw [ht]; exact g1, g3, g5⟩, g2.F ht⟩) g2.2.2 g7
      rcases q with _ | ⟨t, o⟩
      · exact Or.inl rfl
      · exact Or.inr ⟨_, rfl⟩
  have hfin := hs E trivial p e s m (as.map (conc E)).toArray below meth c _ _ σ.2.2.1 hC hRet s.heap [] _ hR va_S.rf (HL_entry hl) (Nat.le_refl _) hn.1 (fun a h => by cases h) (fun i a h => mkL_vok as hok i a (padL_get _ _ _ _ h))
  rw [Nat.sub_self, Nat.sub_self] at hfin
  rw [lg_entry_eq]
  exact hfin
end
