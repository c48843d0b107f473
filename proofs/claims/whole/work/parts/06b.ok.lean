/-! by program: the tables and pools are the statement's -/
set_option maxRecDepth 100000 in
theorem wX0_addRelation : ywd YX0_addRelation ∈ gw := inG (i := 183) rfl rfl
set_option maxRecDepth 100000 in
theorem wX1_isEvent : ywd YX1_isEvent ∈ gw := inG (i := 444) rfl rfl
set_option maxRecDepth 100000 in
theorem wX1_isObservation : ywd YX1_isObservation ∈ gw := inG (i := 484) rfl rfl
set_option maxRecDepth 100000 in
theorem wX0_init : ywd YX0_init ∈ gw := inG (i := 177) rfl rfl
set_option maxRecDepth 100000 in
theorem wX4_init : ywd YX4_init ∈ gw := inG (i := 195) rfl rfl
set_option maxRecDepth 100000 in
theorem wX3_init : ywd YX3_init ∈ gw := inG (i := 217) rfl rfl
set_option maxRecDepth 100000 in
theorem wX4_tell : ywd YX4_tell ∈ gw := inG (i := 556) rfl rfl
set_option maxRecDepth 100000 in
theorem wX4_close : ywd YX4_close ∈ gw := inG (i := 581) rfl rfl
set_option maxRecDepth 100000 in
theorem wX3_dropAll : ywd YX3_dropAll ∈ gw := inG (i := 607) rfl rfl
set_option maxRecDepth 100000 in
theorem wX2_closedNet : ywd YX2_closedNet ∈ gw := inG (i := 577) rfl rfl
set_option maxRecDepth 100000 in
theorem wX3_find : ywd YX3_find ∈ gw := inG (i := 621) rfl rfl
set_option maxRecDepth 100000 in
theorem wJ9_min_7cf53 : ywd YJ9_min_7cf53 ∈ gw := inG (i := 359) rfl rfl
set_option maxRecDepth 100000 in
theorem wX4_empty : ywd YX4_empty ∈ gw := inG (i := 603) rfl rfl
set_option maxRecDepth 100000 in
theorem wX2_findHistories : ywd YX2_findHistories ∈ gw := inG (i := 616) rfl rfl
set_option maxRecDepth 100000 in
theorem wX2_mark : ywd YX2_mark ∈ gw := inG (i := 670) rfl rfl
set_option maxRecDepth 100000 in
theorem wX8_pairsOf : ywd YX8_pairsOf ∈ gw := inG (i := 636) rfl rfl
set_option maxRecDepth 100000 in
theorem wX2_tryRelation : ywd YX2_tryRelation ∈ gw := inG (i := 683) rfl rfl
set_option maxRecDepth 100000 in
theorem wX4_at : ywd YX4_at ∈ gw := inG (i := 564) rfl rfl
set_option maxRecDepth 100000 in
theorem wX4_copyFrom : ywd YX4_copyFrom ∈ gw := inG (i := 687) rfl rfl
set_option maxRecDepth 100000 in
theorem wX4_put : ywd YX4_put ∈ gw := inG (i := 568) rfl rfl
set_option maxRecDepth 100000 in
theorem wX8_pairOf : ywd YX8_pairOf ∈ gw := inG (i := 599) rfl rfl
set_option maxRecDepth 100000 in
theorem wX3_relation : ywd YX3_relation ∈ gw := inG (i := 676) rfl rfl
set_option maxRecDepth 100000 in
theorem wX2_hasHistoryWithout : ywd YX2_hasHistoryWithout ∈ gw := inG (i := 727) rfl rfl
set_option maxRecDepth 100000 in
theorem wX4_hold : ywd YX4_hold ∈ gw := inG (i := 560) rfl rfl
set_option maxRecDepth 100000 in
theorem wX7_isSoIn : ywd YX7_isSoIn ∈ gw := inG (i := 777) rfl rfl
set_option maxRecDepth 100000 in
theorem wJ9_max_7cf53 : ywd YJ9_max_7cf53 ∈ gw := inG (i := 223) rfl rfl
set_option maxRecDepth 100000 in
theorem wX3_search : ywd YX3_search ∈ gw := inG (i := 629) rfl rfl
set_option maxRecDepth 100000 in
theorem wX3_write : ywd YX3_write ∈ gw := inG (i := 633) rfl rfl
set_option maxRecDepth 100000 in
theorem wX3_place : ywd YX3_place ∈ gw := inG (i := 640) rfl rfl
set_option maxRecDepth 100000 in
theorem wX3_leavesRoom : ywd YX3_leavesRoom ∈ gw := inG (i := 644) rfl rfl
set_option maxRecDepth 100000 in
theorem wX3_zoneStart : ywd YX3_zoneStart ∈ gw := inG (i := 659) rfl rfl
set_option maxRecDepth 100000 in
theorem wX3_zoneEnd : ywd YX3_zoneEnd ∈ gw := inG (i := 663) rfl rfl
set_option maxRecDepth 100000 in
theorem wX3_narrow : ywd YX3_narrow ∈ gw := inG (i := 648) rfl rfl
set_option maxRecDepth 100000 in
theorem wX0_composeOne : ywd YX0_composeOne ∈ gw := inG (i := 653) rfl rfl
set_option maxRecDepth 100000 in
theorem wX3_pointsAhead : ywd YX3_pointsAhead ∈ gw := inG (i := 711) rfl rfl
set_option maxRecDepth 100000 in
theorem wX3_isFirstAtItsTime : ywd YX3_isFirstAtItsTime ∈ gw := inG (i := 715) rfl rfl
set_option maxRecDepth 100000 in
theorem wX0_turn : ywd YX0_turn ∈ gw := inG (i := 572) rfl rfl
set_option maxRecDepth 100000 in
theorem wX4_spread : ywd YX4_spread ∈ gw := inG (i := 589) rfl rfl
set_option maxRecDepth 100000 in
theorem wX4_narrow : ywd YX4_narrow ∈ gw := inG (i := 593) rfl rfl
set_option maxRecDepth 100000 in
theorem wX0_compose : ywd YX0_compose ∈ gw := inG (i := 543) rfl rfl
set_option maxRecDepth 100000 in
theorem wX1_init : ywd YX1_init ∈ gw := inG (i := 92) rfl rfl
set_option maxRecDepth 100000 in
theorem wX5_loseOldest : ywd YX5_loseOldest ∈ gw := inG (i := 502) rfl rfl
set_option maxRecDepth 100000 in
theorem wX1_copyFrom : ywd YX1_copyFrom ∈ gw := inG (i := 467) rfl rfl
set_option maxRecDepth 100000 in
theorem wX6_readToken : ywd YX6_readToken ∈ gw := inG (i := 363) rfl rfl
set_option maxRecDepth 100000 in
theorem wX6_readItem : ywd YX6_readItem ∈ gw := inG (i := 375) rfl rfl
set_option maxRecDepth 100000 in
theorem wX6_isRow : ywd YX6_isRow ∈ gw := inG (i := 380) rfl rfl
set_option maxRecDepth 100000 in
theorem wX6_readEvents : ywd YX6_readEvents ∈ gw := inG (i := 432) rfl rfl
set_option maxRecDepth 100000 in
theorem wX6_readObservation : ywd YX6_readObservation ∈ gw := inG (i := 436) rfl rfl
set_option maxRecDepth 100000 in
theorem wX6_eventOfToken : ywd YX6_eventOfToken ∈ gw := inG (i := 440) rfl rfl
set_option maxRecDepth 100000 in
theorem wX6_setOfToken : ywd YX6_setOfToken ∈ gw := inG (i := 448) rfl rfl
set_option maxRecDepth 100000 in
theorem wX8_isToldSet : ywd YX8_isToldSet ∈ gw := inG (i := 459) rfl rfl
set_option maxRecDepth 100000 in
theorem wX1_append : ywd YX1_append ∈ gw := inG (i := 463) rfl rfl
set_option maxRecDepth 100000 in
theorem wJ0_length_8abf5 : ywd YJ0_length_8abf5 ∈ gw := inG (i := 384) rfl rfl
set_option maxRecDepth 100000 in
theorem wJ0_charAt_5068e : ywd YJ0_charAt_5068e ∈ gw := inG (i := 394) rfl rfl
set_option maxRecDepth 100000 in
theorem wX6_kindAt : ywd YX6_kindAt ∈ gw := inG (i := 367) rfl rfl
set_option maxRecDepth 100000 in
theorem wX6_readValue : ywd YX6_readValue ∈ gw := inG (i := 371) rfl rfl
set_option maxRecDepth 100000 in
theorem wX6_init : ywd YX6_init ∈ gw := inG (i := 86) rfl rfl
set_option maxRecDepth 100000 in
theorem wX5_init : ywd YX5_init ∈ gw := inG (i := 154) rfl rfl
set_option maxRecDepth 100000 in
theorem wX2_init : ywd YX2_init ∈ gw := inG (i := 171) rfl rfl
set_option maxRecDepth 100000 in
theorem wX7_init : ywd YX7_init ∈ gw := inG (i := 295) rfl rfl
set_option maxRecDepth 100000 in
theorem wX6_readText : ywd YX6_readText ∈ gw := inG (i := 356) rfl rfl
set_option maxRecDepth 100000 in
theorem wX5_dropAll : ywd YX5_dropAll ∈ gw := inG (i := 471) rfl rfl
set_option maxRecDepth 100000 in
theorem wX2_forgetAll : ywd YX2_forgetAll ∈ gw := inG (i := 475) rfl rfl
set_option maxRecDepth 100000 in
theorem wX1_areTwo : ywd YX1_areTwo ∈ gw := inG (i := 492) rfl rfl
set_option maxRecDepth 100000 in
theorem wX5_remember : ywd YX5_remember ∈ gw := inG (i := 498) rfl rfl
set_option maxRecDepth 100000 in
theorem wX1_remove : ywd YX1_remove ∈ gw := inG (i := 512) rfl rfl
set_option maxRecDepth 100000 in
theorem wX5_recall : ywd YX5_recall ∈ gw := inG (i := 525) rfl rfl
set_option maxRecDepth 100000 in
theorem wX8_isRelation : ywd YX8_isRelation ∈ gw := inG (i := 532) rfl rfl
set_option maxRecDepth 100000 in
theorem wX8_isSet : ywd YX8_isSet ∈ gw := inG (i := 539) rfl rfl
set_option maxRecDepth 100000 in
theorem wX2_toldNet : ywd YX2_toldNet ∈ gw := inG (i := 552) rfl rfl
set_option maxRecDepth 100000 in
theorem wX2_reallyNet : ywd YX2_reallyNet ∈ gw := inG (i := 611) rfl rfl
set_option maxRecDepth 100000 in
theorem wX3_pointOf : ywd YX3_pointOf ∈ gw := inG (i := 707) rfl rfl
set_option maxRecDepth 100000 in
theorem wX2_quarrel : ywd YX2_quarrel ∈ gw := inG (i := 723) rfl rfl
set_option maxRecDepth 100000 in
theorem wX2_blame : ywd YX2_blame ∈ gw := inG (i := 731) rfl rfl
set_option maxRecDepth 100000 in
theorem wX2_eldestEvents : ywd YX2_eldestEvents ∈ gw := inG (i := 739) rfl rfl
set_option maxRecDepth 100000 in
theorem wJ6_bitCount_0f7a4 : ywd YJ6_bitCount_0f7a4 ∈ gw := inG (i := 750) rfl rfl
set_option maxRecDepth 100000 in
theorem wX7_append : ywd YX7_append ∈ gw := inG (i := 761) rfl rfl
set_option maxRecDepth 100000 in
theorem wX2_suspects : ywd YX2_suspects ∈ gw := inG (i := 773) rfl rfl
set_option maxRecDepth 100000 in
theorem wX3_allPoints : ywd YX3_allPoints ∈ gw := inG (i := 794) rfl rfl
set_option maxRecDepth 100000 in
theorem wX9_relationOf : ywd YX9_relationOf ∈ gw := inG (i := 804) rfl rfl
set_option maxRecDepth 100000 in
theorem wX9_beginOf : ywd YX9_beginOf ∈ gw := inG (i := 807) rfl rfl
set_option maxRecDepth 100000 in
theorem wX9_endOf : ywd YX9_endOf ∈ gw := inG (i := 810) rfl rfl
set_option maxRecDepth 100000 in
theorem wX9_laid : ywd YX9_laid ∈ gw := inG (i := 813) rfl rfl
set_option maxRecDepth 100000 in
theorem wX9_in : ywd YX9_in ∈ gw := inG (i := 911) rfl rfl
set_option maxRecDepth 100000 in
theorem wX9_composedOf : ywd YX9_composedOf ∈ gw := inG (i := 919) rfl rfl
set_option maxRecDepth 100000 in
theorem wX9_x : ywd YX9_x ∈ gw := inG (i := 935) rfl rfl
set_option maxRecDepth 100000 in
theorem wX9_y : ywd YX9_y ∈ gw := inG (i := 939) rfl rfl
set_option maxRecDepth 100000 in
theorem wX9_set : ywd YX9_set ∈ gw := inG (i := 943) rfl rfl
set_option maxRecDepth 100000 in
theorem wX9_turnedSet : ywd YX9_turnedSet ∈ gw := inG (i := 946) rfl rfl
set_option maxRecDepth 100000 in
theorem wX9_highOf : ywd YX9_highOf ∈ gw := inG (i := 968) rfl rfl
set_option maxRecDepth 100000 in
theorem wX9_pairOf : ywd YX9_pairOf ∈ gw := inG (i := 971) rfl rfl
set_option maxRecDepth 100000 in
theorem wX9_pairs : ywd YX9_pairs ∈ gw := inG (i := 962) rfl rfl
set_option maxRecDepth 100000 in
theorem wX9_lowOf : ywd YX9_lowOf ∈ gw := inG (i := 965) rfl rfl
set_option maxRecDepth 100000 in
theorem wX9_toldOf : ywd YX9_toldOf ∈ gw := inG (i := 931) rfl rfl
set_option maxRecDepth 100000 in
theorem wX9_agrees : ywd YX9_agrees ∈ gw := inG (i := 979) rfl rfl
set_option maxRecDepth 100000 in
theorem wX9_lets : ywd YX9_lets ∈ gw := inG (i := 958) rfl rfl
set_option maxRecDepth 100000 in
theorem wX9_isNext : ywd YX9_isNext ∈ gw := inG (i := 975) rfl rfl
set_option maxRecDepth 100000 in
theorem wX9_isWithout : ywd YX9_isWithout ∈ gw := inG (i := 954) rfl rfl
set_option maxRecDepth 100000 in
theorem wX9_closes : ywd YX9_closes ∈ gw := inG (i := 983) rfl rfl
set_option maxRecDepth 100000 in
theorem wX9_isEvent : ywd YX9_isEvent ∈ gw := inG (i := 927) rfl rfl
set_option maxRecDepth 100000 in
theorem wX9_lays : ywd YX9_lays ∈ gw := inG (i := 950) rfl rfl
set_option maxRecDepth 100000 in
theorem wX9_reallyOf : ywd YX9_reallyOf ∈ gw := inG (i := 987) rfl rfl
set_option maxRecDepth 100000 in
theorem wX9_areTwo : ywd YX9_areTwo ∈ gw := inG (i := 999) rfl rfl
set_option maxRecDepth 100000 in
theorem wX9_triedOf : ywd YX9_triedOf ∈ gw := inG (i := 1003) rfl rfl
set_option maxRecDepth 100000 in
theorem wX9_farOf : ywd YX9_farOf ∈ gw := inG (i := 1015) rfl rfl
set_option maxRecDepth 100000 in
theorem wX9_timesAhead : ywd YX9_timesAhead ∈ gw := inG (i := 1011) rfl rfl
set_option maxRecDepth 100000 in
theorem wX9_quarrel : ywd YX9_quarrel ∈ gw := inG (i := 1023) rfl rfl
set_option maxRecDepth 100000 in
theorem wX9_blame : ywd YX9_blame ∈ gw := inG (i := 1027) rfl rfl
set_option maxRecDepth 100000 in
theorem wX9_bits : ywd YX9_bits ∈ gw := inG (i := 1038) rfl rfl
set_option maxRecDepth 100000 in
theorem wX9_isObservation : ywd YX9_isObservation ∈ gw := inG (i := 1058) rfl rfl
set_option maxRecDepth 100000 in
theorem wX9_deed : ywd YX9_deed ∈ gw := inG (i := 1066) rfl rfl
set_option maxRecDepth 100000 in
theorem wX9_row : ywd YX9_row ∈ gw := inG (i := 1106) rfl rfl
set_option maxRecDepth 100000 in
theorem wX9_isKind : ywd YX9_isKind ∈ gw := inG (i := 1115) rfl rfl
set_option maxRecDepth 100000 in
theorem wX9_letterAt : ywd YX9_letterAt ∈ gw := inG (i := 1120) rfl rfl
set_option maxRecDepth 100000 in
theorem wX9_isWord : ywd YX9_isWord ∈ gw := inG (i := 1111) rfl rfl
set_option maxRecDepth 100000 in
theorem wX9_takesEvent : ywd YX9_takesEvent ∈ gw := inG (i := 1132) rfl rfl
set_option maxRecDepth 100000 in
theorem wX9_setTold : ywd YX9_setTold ∈ gw := inG (i := 1136) rfl rfl
set_option maxRecDepth 100000 in
theorem wX9_split : ywd YX9_split ∈ gw := inG (i := 1102) rfl rfl
set_option maxRecDepth 100000 in
theorem wX9_manyTold : ywd YX9_manyTold ∈ gw := inG (i := 1124) rfl rfl
set_option maxRecDepth 100000 in
theorem wX9_item : ywd YX9_item ∈ gw := inG (i := 1128) rfl rfl
set_option maxRecDepth 100000 in
theorem wX8_init : ywd YX8_init ∈ gw := inG (i := 78) rfl rfl
set_option maxRecDepth 100000 in
theorem wX9_init : ywd YX9_init ∈ gw := inG (i := 799) rfl rfl
set_option maxRecDepth 100000 in
theorem wX8_type : ywd YX8_type ∈ gw := inG (i := 344) rfl rfl
set_option maxRecDepth 100000 in
theorem wX9_type : ywd YX9_type ∈ gw := inG (i := 1090) rfl rfl
set_option maxRecDepth 100000 in
theorem wX8_clear : ywd YX8_clear ∈ gw := inG (i := 348) rfl rfl
set_option maxRecDepth 100000 in
theorem wX9_clear : ywd YX9_clear ∈ gw := inG (i := 1094) rfl rfl
set_option maxRecDepth 100000 in
theorem wX8_tells : ywd YX8_tells ∈ gw := inG (i := 352) rfl rfl
set_option maxRecDepth 100000 in
theorem wX9_tells : ywd YX9_tells ∈ gw := inG (i := 1098) rfl rfl
set_option maxRecDepth 100000 in
theorem wX8_observed : ywd YX8_observed ∈ gw := inG (i := 480) rfl rfl
set_option maxRecDepth 100000 in
theorem wX9_observed : ywd YX9_observed ∈ gw := inG (i := 1054) rfl rfl
set_option maxRecDepth 100000 in
theorem wX8_adds : ywd YX8_adds ∈ gw := inG (i := 488) rfl rfl
set_option maxRecDepth 100000 in
theorem wX9_adds : ywd YX9_adds ∈ gw := inG (i := 1062) rfl rfl
set_option maxRecDepth 100000 in
theorem wX8_takes : ywd YX8_takes ∈ gw := inG (i := 508) rfl rfl
set_option maxRecDepth 100000 in
theorem wX9_takes : ywd YX9_takes ∈ gw := inG (i := 1070) rfl rfl
set_option maxRecDepth 100000 in
theorem wX8_turns : ywd YX8_turns ∈ gw := inG (i := 517) rfl rfl
set_option maxRecDepth 100000 in
theorem wX9_turns : ywd YX9_turns ∈ gw := inG (i := 1074) rfl rfl
set_option maxRecDepth 100000 in
theorem wX8_undo : ywd YX8_undo ∈ gw := inG (i := 521) rfl rfl
set_option maxRecDepth 100000 in
theorem wX9_undo : ywd YX9_undo ∈ gw := inG (i := 1078) rfl rfl
set_option maxRecDepth 100000 in
theorem wX8_turned : ywd YX8_turned ∈ gw := inG (i := 529) rfl rfl
set_option maxRecDepth 100000 in
theorem wX9_turned : ywd YX9_turned ∈ gw := inG (i := 908) rfl rfl
set_option maxRecDepth 100000 in
theorem wX8_composed : ywd YX8_composed ∈ gw := inG (i := 536) rfl rfl
set_option maxRecDepth 100000 in
theorem wX9_composed : ywd YX9_composed ∈ gw := inG (i := 915) rfl rfl
set_option maxRecDepth 100000 in
theorem wX8_left : ywd YX8_left ∈ gw := inG (i := 547) rfl rfl
set_option maxRecDepth 100000 in
theorem wX9_left : ywd YX9_left ∈ gw := inG (i := 923) rfl rfl
set_option maxRecDepth 100000 in
theorem wX8_many : ywd YX8_many ∈ gw := inG (i := 693) rfl rfl
set_option maxRecDepth 100000 in
theorem wX9_many : ywd YX9_many ∈ gw := inG (i := 991) rfl rfl
set_option maxRecDepth 100000 in
theorem wX8_history : ywd YX8_history ∈ gw := inG (i := 698) rfl rfl
set_option maxRecDepth 100000 in
theorem wX9_history : ywd YX9_history ∈ gw := inG (i := 995) rfl rfl
set_option maxRecDepth 100000 in
theorem wX8_point : ywd YX8_point ∈ gw := inG (i := 703) rfl rfl
set_option maxRecDepth 100000 in
theorem wX9_point : ywd YX9_point ∈ gw := inG (i := 1007) rfl rfl
set_option maxRecDepth 100000 in
theorem wX8_wrong : ywd YX8_wrong ∈ gw := inG (i := 719) rfl rfl
set_option maxRecDepth 100000 in
theorem wX9_wrong : ywd YX9_wrong ∈ gw := inG (i := 1019) rfl rfl
set_option maxRecDepth 100000 in
theorem wX8_eldest : ywd YX8_eldest ∈ gw := inG (i := 735) rfl rfl
set_option maxRecDepth 100000 in
theorem wX9_eldest : ywd YX9_eldest ∈ gw := inG (i := 1031) rfl rfl
set_option maxRecDepth 100000 in
theorem wX8_next : ywd YX8_next ∈ gw := inG (i := 744) rfl rfl
set_option maxRecDepth 100000 in
theorem wX9_next : ywd YX9_next ∈ gw := inG (i := 1035) rfl rfl
set_option maxRecDepth 100000 in
theorem wX8_sees : ywd YX8_sees ∈ gw := inG (i := 757) rfl rfl
set_option maxRecDepth 100000 in
theorem wX9_sees : ywd YX9_sees ∈ gw := inG (i := 1042) rfl rfl
set_option maxRecDepth 100000 in
theorem wX8_forget : ywd YX8_forget ∈ gw := inG (i := 765) rfl rfl
set_option maxRecDepth 100000 in
theorem wX9_forget : ywd YX9_forget ∈ gw := inG (i := 1046) rfl rfl
set_option maxRecDepth 100000 in
theorem wX8_unseen : ywd YX8_unseen ∈ gw := inG (i := 769) rfl rfl
set_option maxRecDepth 100000 in
theorem wX9_unseen : ywd YX9_unseen ∈ gw := inG (i := 1050) rfl rfl
set_option maxRecDepth 100000 in
theorem wX8_keep : ywd YX8_keep ∈ gw := inG (i := 782) rfl rfl
set_option maxRecDepth 100000 in
theorem wX9_keep : ywd YX9_keep ∈ gw := inG (i := 1082) rfl rfl
set_option maxRecDepth 100000 in
theorem wX8_back : ywd YX8_back ∈ gw := inG (i := 786) rfl rfl
set_option maxRecDepth 100000 in
theorem wX9_back : ywd YX9_back ∈ gw := inG (i := 1086) rfl rfl
set_option maxRecDepth 100000 in
theorem wX8_count : ywd YX8_count ∈ gw := inG (i := 790) rfl rfl
set_option maxRecDepth 100000 in
theorem wX9_count : ywd YX9_count ∈ gw := inG (i := 1148) rfl rfl
set_option maxRecDepth 100000 in
theorem wJ0_coder_7d493 : ywd YJ0_coder_7d493 ∈ gw := inG (i := 388) rfl rfl
set_option maxRecDepth 100000 in
theorem wJ0_isLatin1_aae02 : ywd YJ0_isLatin1_aae02 ∈ gw := inG (i := 398) rfl rfl
set_option maxRecDepth 100000 in
theorem wJ1_charAt_3b067 : ywd YJ1_charAt_3b067 ∈ gw := inG (i := 401) rfl rfl
set_option maxRecDepth 100000 in
theorem wJ2_charAt_3b067 : ywd YJ2_charAt_3b067 ∈ gw := inG (i := 412) rfl rfl
set_option maxRecDepth 100000 in
theorem wJ3_checkIndex_8e157 : ywd YJ3_checkIndex_8e157 ∈ gw := inG (i := 409) rfl rfl
set_option maxRecDepth 100000 in
theorem wJ0_checkIndex_df160 : ywd YJ0_checkIndex_df160 ∈ gw := inG (i := 404) rfl rfl
theorem oWX0 : okW pmX0 := List.forall_mem_cons.mpr ⟨fun h => absurd h (by decide), List.forall_mem_cons.mpr ⟨fun _ => wX0_addRelation, fun _ h => absurd h List.not_mem_nil⟩⟩
set_option maxRecDepth 100000 in
theorem oPX0 : okP PX0 := ⟨by decide +kernel, by decide +kernel, oWX0, by decide +kernel, by decide +kernel, by decide +kernel, by decide +kernel, by decide +kernel⟩
theorem oWX1 : okW pmX1 := List.forall_mem_cons.mpr ⟨fun h => absurd h (by decide), List.forall_mem_cons.mpr ⟨fun _ => wX1_isEvent, List.forall_mem_cons.mpr ⟨fun _ => wX1_isObservation, fun _ h => absurd h List.not_mem_nil⟩⟩⟩
set_option maxRecDepth 100000 in
theorem oPX1 : okP PX1 := ⟨by decide +kernel, by decide +kernel, oWX1, by decide +kernel, by decide +kernel, by decide +kernel, by decide +kernel, by decide +kernel⟩
theorem oWX2 : okW pmX2 := List.forall_mem_cons.mpr ⟨fun h => absurd h (by decide), List.forall_mem_cons.mpr ⟨fun _ => wX0_init, List.forall_mem_cons.mpr ⟨fun _ => wX4_init, List.forall_mem_cons.mpr ⟨fun _ => wX3_init, List.forall_mem_cons.mpr ⟨fun _ => wX4_tell, List.forall_mem_cons.mpr ⟨fun _ => wX4_close, List.forall_mem_cons.mpr ⟨fun _ => wX3_dropAll, List.forall_mem_cons.mpr ⟨fun _ => wX2_closedNet, List.forall_mem_cons.mpr ⟨fun _ => wX3_find, List.forall_mem_cons.mpr ⟨fun h => absurd h (by decide), List.forall_mem_cons.mpr ⟨fun _ => wX4_empty, List.forall_mem_cons.mpr ⟨fun _ => wX2_findHistories, List.forall_mem_cons.mpr ⟨fun _ => wX2_mark, List.forall_mem_cons.mpr ⟨fun _ => wX8_pairsOf, List.forall_mem_cons.mpr ⟨fun _ => wX2_tryRelation, List.forall_mem_cons.mpr ⟨fun _ => wX4_at, List.forall_mem_cons.mpr ⟨fun _ => wX4_copyFrom, List.forall_mem_cons.mpr ⟨fun _ => wX4_put, List.forall_mem_cons.mpr ⟨fun _ => wX8_pairOf, List.forall_mem_cons.mpr ⟨fun _ => wX3_relation, List.forall_mem_cons.mpr ⟨fun _ => wX2_hasHistoryWithout, List.forall_mem_cons.mpr ⟨fun _ => wX4_hold, List.forall_mem_cons.mpr ⟨fun _ => wX7_isSoIn, fun _ h => absurd h List.not_mem_nil⟩⟩⟩⟩⟩⟩⟩⟩⟩⟩⟩⟩⟩⟩⟩⟩⟩⟩⟩⟩⟩⟩⟩
set_option maxRecDepth 100000 in
theorem oPX2 : okP PX2 := ⟨by decide +kernel, by decide +kernel, oWX2, by decide +kernel, by decide +kernel, by decide +kernel, by decide +kernel, by decide +kernel⟩
theorem oWX3 : okW pmX3 := List.forall_mem_cons.mpr ⟨fun h => absurd h (by decide), List.forall_mem_cons.mpr ⟨fun h => absurd h (by decide), List.forall_mem_cons.mpr ⟨fun h => absurd h (by decide), List.forall_mem_cons.mpr ⟨fun h => absurd h (by decide), List.forall_mem_cons.mpr ⟨fun _ => wX3_search, List.forall_mem_cons.mpr ⟨fun _ => wX3_write, List.forall_mem_cons.mpr ⟨fun _ => wX3_place, List.forall_mem_cons.mpr ⟨fun _ => wX3_leavesRoom, List.forall_mem_cons.mpr ⟨fun _ => wX3_zoneStart, List.forall_mem_cons.mpr ⟨fun _ => wX3_zoneEnd, List.forall_mem_cons.mpr ⟨fun _ => wX8_pairOf, List.forall_mem_cons.mpr ⟨fun _ => wX3_narrow, List.forall_mem_cons.mpr ⟨fun _ => wX0_composeOne, List.forall_mem_cons.mpr ⟨fun _ => wX8_pairsOf, List.forall_mem_cons.mpr ⟨fun _ => wX3_pointsAhead, List.forall_mem_cons.mpr ⟨fun _ => wX3_isFirstAtItsTime, fun _ h => absurd h List.not_mem_nil⟩⟩⟩⟩⟩⟩⟩⟩⟩⟩⟩⟩⟩⟩⟩⟩
set_option maxRecDepth 100000 in
theorem oPX3 : okP PX3 := ⟨by decide +kernel, by decide +kernel, oWX3, by decide +kernel, by decide +kernel, by decide +kernel, by decide +kernel, by decide +kernel⟩
theorem oWX4 : okW pmX4 := List.forall_mem_cons.mpr ⟨fun h => absurd h (by decide), List.forall_mem_cons.mpr ⟨fun _ => wX0_turn, List.forall_mem_cons.mpr ⟨fun _ => wX4_hold, List.forall_mem_cons.mpr ⟨fun _ => wX4_at, List.forall_mem_cons.mpr ⟨fun _ => wX4_put, List.forall_mem_cons.mpr ⟨fun h => absurd h (by decide), List.forall_mem_cons.mpr ⟨fun _ => wX4_spread, List.forall_mem_cons.mpr ⟨fun _ => wX4_empty, List.forall_mem_cons.mpr ⟨fun _ => wX4_narrow, List.forall_mem_cons.mpr ⟨fun _ => wX0_compose, List.forall_mem_cons.mpr ⟨fun h => absurd h (by decide), List.forall_mem_cons.mpr ⟨fun h => absurd h (by decide), List.forall_mem_cons.mpr ⟨fun _ => wX8_pairOf, fun _ h => absurd h List.not_mem_nil⟩⟩⟩⟩⟩⟩⟩⟩⟩⟩⟩⟩⟩
set_option maxRecDepth 100000 in
theorem oPX4 : okP PX4 := ⟨by decide +kernel, by decide +kernel, oWX4, by decide +kernel, by decide +kernel, by decide +kernel, by decide +kernel, by decide +kernel⟩
theorem oWX5 : okW pmX5 := List.forall_mem_cons.mpr ⟨fun h => absurd h (by decide), List.forall_mem_cons.mpr ⟨fun _ => wX1_init, List.forall_mem_cons.mpr ⟨fun _ => wX5_loseOldest, List.forall_mem_cons.mpr ⟨fun _ => wX1_copyFrom, fun _ h => absurd h List.not_mem_nil⟩⟩⟩⟩
set_option maxRecDepth 100000 in
theorem oPX5 : okP PX5 := ⟨by decide +kernel, by decide +kernel, oWX5, by decide +kernel, by decide +kernel, by decide +kernel, by decide +kernel, by decide +kernel⟩
theorem oWX6 : okW pmX6 := List.forall_mem_cons.mpr ⟨fun h => absurd h (by decide), List.forall_mem_cons.mpr ⟨fun _ => wX1_init, List.forall_mem_cons.mpr ⟨fun h => absurd h (by decide), List.forall_mem_cons.mpr ⟨fun _ => wX6_readToken, List.forall_mem_cons.mpr ⟨fun _ => wX6_readItem, List.forall_mem_cons.mpr ⟨fun _ => wX6_isRow, List.forall_mem_cons.mpr ⟨fun _ => wX6_readEvents, List.forall_mem_cons.mpr ⟨fun _ => wX6_readObservation, List.forall_mem_cons.mpr ⟨fun _ => wX6_eventOfToken, List.forall_mem_cons.mpr ⟨fun _ => wX6_setOfToken, List.forall_mem_cons.mpr ⟨fun _ => wX8_isToldSet, List.forall_mem_cons.mpr ⟨fun _ => wX1_append, List.forall_mem_cons.mpr ⟨fun _ => wX1_isEvent, List.forall_mem_cons.mpr ⟨fun _ => wJ0_length_8abf5, List.forall_mem_cons.mpr ⟨fun _ => wJ0_charAt_5068e, List.forall_mem_cons.mpr ⟨fun _ => wX6_kindAt, List.forall_mem_cons.mpr ⟨fun _ => wX6_readValue, fun _ h => absurd h List.not_mem_nil⟩⟩⟩⟩⟩⟩⟩⟩⟩⟩⟩⟩⟩⟩⟩⟩⟩
set_option maxRecDepth 100000 in
theorem oPX6 : okP PX6 := ⟨by decide +kernel, by decide +kernel, oWX6, by decide +kernel, by decide +kernel, by decide +kernel, by decide +kernel, by decide +kernel⟩
theorem oWX7 : okW pmX7 := List.forall_mem_cons.mpr ⟨fun h => absurd h (by decide), List.forall_mem_cons.mpr ⟨fun _ => wX3_relation, fun _ h => absurd h List.not_mem_nil⟩⟩
set_option maxRecDepth 100000 in
theorem oPX7 : okP PX7 := ⟨by decide +kernel, by decide +kernel, oWX7, by decide +kernel, by decide +kernel, by decide +kernel, by decide +kernel, by decide +kernel⟩
theorem oWX8 : okW pmX8 := List.forall_mem_cons.mpr ⟨fun h => absurd h (by decide), List.forall_mem_cons.mpr ⟨fun _ => wX6_init, List.forall_mem_cons.mpr ⟨fun _ => wX1_init, List.forall_mem_cons.mpr ⟨fun _ => wX5_init, List.forall_mem_cons.mpr ⟨fun _ => wX2_init, List.forall_mem_cons.mpr ⟨fun _ => wX7_init, List.forall_mem_cons.mpr ⟨fun _ => wX6_readText, List.forall_mem_cons.mpr ⟨fun _ => wX1_copyFrom, List.forall_mem_cons.mpr ⟨fun _ => wX5_dropAll, List.forall_mem_cons.mpr ⟨fun _ => wX2_forgetAll, List.forall_mem_cons.mpr ⟨fun _ => wX1_isObservation, List.forall_mem_cons.mpr ⟨fun _ => wX1_areTwo, List.forall_mem_cons.mpr ⟨fun _ => wX8_isToldSet, List.forall_mem_cons.mpr ⟨fun _ => wX5_remember, List.forall_mem_cons.mpr ⟨fun _ => wX1_append, List.forall_mem_cons.mpr ⟨fun _ => wX1_remove, List.forall_mem_cons.mpr ⟨fun _ => wX5_recall, List.forall_mem_cons.mpr ⟨fun _ => wX8_isRelation, List.forall_mem_cons.mpr ⟨fun _ => wX8_isSet, List.forall_mem_cons.mpr ⟨fun _ => wX0_compose, List.forall_mem_cons.mpr ⟨fun _ => wX1_isEvent, List.forall_mem_cons.mpr ⟨fun _ => wX2_toldNet, List.forall_mem_cons.mpr ⟨fun _ => wX4_at, List.forall_mem_cons.mpr ⟨fun _ => wX2_closedNet, List.forall_mem_cons.mpr ⟨fun _ => wX2_reallyNet, List.forall_mem_cons.mpr ⟨fun _ => wX2_findHistories, List.forall_mem_cons.mpr ⟨fun _ => wX3_relation, List.forall_mem_cons.mpr ⟨fun _ => wX3_pointOf, List.forall_mem_cons.mpr ⟨fun _ => wX2_quarrel, List.forall_mem_cons.mpr ⟨fun _ => wX2_blame, List.forall_mem_cons.mpr ⟨fun _ => wX2_eldestEvents, List.forall_mem_cons.mpr ⟨fun _ => wX8_pairsOf, List.forall_mem_cons.mpr ⟨fun _ => wJ6_bitCount_0f7a4, List.forall_mem_cons.mpr ⟨fun _ => wX7_append, List.forall_mem_cons.mpr ⟨fun _ => wX2_suspects, List.forall_mem_cons.mpr ⟨fun _ => wX3_allPoints, fun _ h => absurd h List.not_mem_nil⟩⟩⟩⟩⟩⟩⟩⟩⟩⟩⟩⟩⟩⟩⟩⟩⟩⟩⟩⟩⟩⟩⟩⟩⟩⟩⟩⟩⟩⟩⟩⟩⟩⟩⟩⟩
set_option maxRecDepth 100000 in
theorem oPX8 : okP PX8 := ⟨by decide +kernel, by decide +kernel, oWX8, by decide +kernel, by decide +kernel, by decide +kernel, by decide +kernel, by decide +kernel⟩
theorem oWX9 : okW pmX9 := List.forall_mem_cons.mpr ⟨fun h => absurd h (by decide), List.forall_mem_cons.mpr ⟨fun _ => wX9_relationOf, List.forall_mem_cons.mpr ⟨fun _ => wX9_beginOf, List.forall_mem_cons.mpr ⟨fun _ => wX9_endOf, List.forall_mem_cons.mpr ⟨fun _ => wX9_laid, List.forall_mem_cons.mpr ⟨fun _ => wX9_in, List.forall_mem_cons.mpr ⟨fun _ => wX9_composedOf, List.forall_mem_cons.mpr ⟨fun _ => wX9_x, List.forall_mem_cons.mpr ⟨fun _ => wX9_y, List.forall_mem_cons.mpr ⟨fun _ => wX9_set, List.forall_mem_cons.mpr ⟨fun _ => wX9_turnedSet, List.forall_mem_cons.mpr ⟨fun _ => wX9_highOf, List.forall_mem_cons.mpr ⟨fun _ => wX9_pairOf, List.forall_mem_cons.mpr ⟨fun _ => wX9_pairs, List.forall_mem_cons.mpr ⟨fun _ => wX9_lowOf, List.forall_mem_cons.mpr ⟨fun _ => wX9_toldOf, List.forall_mem_cons.mpr ⟨fun _ => wX9_agrees, List.forall_mem_cons.mpr ⟨fun _ => wX9_lets, List.forall_mem_cons.mpr ⟨fun _ => wX9_isNext, List.forall_mem_cons.mpr ⟨fun _ => wX9_isWithout, List.forall_mem_cons.mpr ⟨fun _ => wX9_closes, List.forall_mem_cons.mpr ⟨fun _ => wX9_isEvent, List.forall_mem_cons.mpr ⟨fun _ => wX9_lays, List.forall_mem_cons.mpr ⟨fun _ => wX9_reallyOf, List.forall_mem_cons.mpr ⟨fun _ => wX9_areTwo, List.forall_mem_cons.mpr ⟨fun _ => wX9_triedOf, List.forall_mem_cons.mpr ⟨fun _ => wX9_farOf, List.forall_mem_cons.mpr ⟨fun _ => wX9_timesAhead, List.forall_mem_cons.mpr ⟨fun _ => wX9_quarrel, List.forall_mem_cons.mpr ⟨fun _ => wX9_blame, List.forall_mem_cons.mpr ⟨fun _ => wX9_bits, List.forall_mem_cons.mpr ⟨fun _ => wX9_isObservation, List.forall_mem_cons.mpr ⟨fun _ => wX9_deed, List.forall_mem_cons.mpr ⟨fun _ => wX9_row, List.forall_mem_cons.mpr ⟨fun _ => wX9_isKind, List.forall_mem_cons.mpr ⟨fun _ => wX9_letterAt, List.forall_mem_cons.mpr ⟨fun _ => wX9_isWord, List.forall_mem_cons.mpr ⟨fun _ => wX9_takesEvent, List.forall_mem_cons.mpr ⟨fun _ => wX9_setTold, List.forall_mem_cons.mpr ⟨fun _ => wX9_split, List.forall_mem_cons.mpr ⟨fun _ => wX9_manyTold, List.forall_mem_cons.mpr ⟨fun _ => wX9_item, fun _ h => absurd h List.not_mem_nil⟩⟩⟩⟩⟩⟩⟩⟩⟩⟩⟩⟩⟩⟩⟩⟩⟩⟩⟩⟩⟩⟩⟩⟩⟩⟩⟩⟩⟩⟩⟩⟩⟩⟩⟩⟩⟩⟩⟩⟩⟩⟩
set_option maxRecDepth 100000 in
theorem oPX9 : okP PX9 := ⟨by decide +kernel, by decide +kernel, oWX9, by decide +kernel, by decide +kernel, by decide +kernel, by decide +kernel, by decide +kernel⟩
theorem oWL : okW pmL := List.forall_mem_cons.mpr ⟨fun _ => wX8_init, List.forall_mem_cons.mpr ⟨fun _ => wX9_init, List.forall_mem_cons.mpr ⟨fun _ => wX8_type, List.forall_mem_cons.mpr ⟨fun _ => wX9_type, List.forall_mem_cons.mpr ⟨fun _ => wX8_clear, List.forall_mem_cons.mpr ⟨fun _ => wX9_clear, List.forall_mem_cons.mpr ⟨fun _ => wX8_tells, List.forall_mem_cons.mpr ⟨fun _ => wX9_tells, List.forall_mem_cons.mpr ⟨fun _ => wX8_observed, List.forall_mem_cons.mpr ⟨fun _ => wX9_observed, List.forall_mem_cons.mpr ⟨fun _ => wX8_adds, List.forall_mem_cons.mpr ⟨fun _ => wX9_adds, List.forall_mem_cons.mpr ⟨fun _ => wX8_takes, List.forall_mem_cons.mpr ⟨fun _ => wX9_takes, List.forall_mem_cons.mpr ⟨fun _ => wX8_turns, List.forall_mem_cons.mpr ⟨fun _ => wX9_turns, List.forall_mem_cons.mpr ⟨fun _ => wX8_undo, List.forall_mem_cons.mpr ⟨fun _ => wX9_undo, List.forall_mem_cons.mpr ⟨fun _ => wX8_turned, List.forall_mem_cons.mpr ⟨fun _ => wX9_turned, List.forall_mem_cons.mpr ⟨fun _ => wX8_composed, List.forall_mem_cons.mpr ⟨fun _ => wX9_composed, List.forall_mem_cons.mpr ⟨fun _ => wX8_left, List.forall_mem_cons.mpr ⟨fun _ => wX9_left, List.forall_mem_cons.mpr ⟨fun _ => wX8_many, List.forall_mem_cons.mpr ⟨fun _ => wX9_many, List.forall_mem_cons.mpr ⟨fun _ => wX8_history, List.forall_mem_cons.mpr ⟨fun _ => wX9_history, List.forall_mem_cons.mpr ⟨fun _ => wX8_point, List.forall_mem_cons.mpr ⟨fun _ => wX9_point, List.forall_mem_cons.mpr ⟨fun _ => wX8_wrong, List.forall_mem_cons.mpr ⟨fun _ => wX9_wrong, List.forall_mem_cons.mpr ⟨fun _ => wX8_eldest, List.forall_mem_cons.mpr ⟨fun _ => wX9_eldest, List.forall_mem_cons.mpr ⟨fun _ => wX8_next, List.forall_mem_cons.mpr ⟨fun _ => wX9_next, List.forall_mem_cons.mpr ⟨fun _ => wX8_sees, List.forall_mem_cons.mpr ⟨fun _ => wX9_sees, List.forall_mem_cons.mpr ⟨fun _ => wX8_forget, List.forall_mem_cons.mpr ⟨fun _ => wX9_forget, List.forall_mem_cons.mpr ⟨fun _ => wX8_unseen, List.forall_mem_cons.mpr ⟨fun _ => wX9_unseen, List.forall_mem_cons.mpr ⟨fun _ => wX8_keep, List.forall_mem_cons.mpr ⟨fun _ => wX9_keep, List.forall_mem_cons.mpr ⟨fun _ => wX8_back, List.forall_mem_cons.mpr ⟨fun _ => wX9_back, List.forall_mem_cons.mpr ⟨fun _ => wX8_count, List.forall_mem_cons.mpr ⟨fun _ => wX9_count, fun _ h => absurd h List.not_mem_nil⟩⟩⟩⟩⟩⟩⟩⟩⟩⟩⟩⟩⟩⟩⟩⟩⟩⟩⟩⟩⟩⟩⟩⟩⟩⟩⟩⟩⟩⟩⟩⟩⟩⟩⟩⟩⟩⟩⟩⟩⟩⟩⟩⟩⟩⟩⟩⟩
set_option maxRecDepth 100000 in
theorem oPL : okP PL := ⟨by decide +kernel, by decide +kernel, oWL, by decide +kernel, by decide +kernel, by decide +kernel, by decide +kernel, by decide +kernel⟩
theorem oWJ0 : okW pmJ0 := List.forall_mem_cons.mpr ⟨fun _ => wJ0_coder_7d493, List.forall_mem_cons.mpr ⟨fun _ => wJ0_isLatin1_aae02, List.forall_mem_cons.mpr ⟨fun _ => wJ1_charAt_3b067, List.forall_mem_cons.mpr ⟨fun _ => wJ2_charAt_3b067, List.forall_mem_cons.mpr ⟨fun _ => wJ3_checkIndex_8e157, fun _ h => absurd h List.not_mem_nil⟩⟩⟩⟩⟩
set_option maxRecDepth 100000 in
theorem oPJ0 : okP PJ0 := ⟨by decide +kernel, by decide +kernel, oWJ0, by decide +kernel, by decide +kernel, by decide +kernel, by decide +kernel, by decide +kernel⟩
theorem oWJ1 : okW pmJ1 := List.forall_mem_cons.mpr ⟨fun _ => wJ0_checkIndex_df160, fun _ h => absurd h List.not_mem_nil⟩
set_option maxRecDepth 100000 in
theorem oPJ1 : okP PJ1 := ⟨by decide +kernel, by decide +kernel, oWJ1, by decide +kernel, by decide +kernel, by decide +kernel, by decide +kernel, by decide +kernel⟩
theorem oWJ6 : okW pmJ6 := fun _ h => absurd h List.not_mem_nil
set_option maxRecDepth 100000 in
theorem oPJ6 : okP PJ6 := ⟨by decide +kernel, by decide +kernel, oWJ6, by decide +kernel, by decide +kernel, by decide +kernel, by decide +kernel, by decide +kernel⟩
theorem oWJ3 : okW pmJ3 := fun _ h => absurd h List.not_mem_nil
set_option maxRecDepth 100000 in
theorem oPJ3 : okP PJ3 := ⟨by decide +kernel, by decide +kernel, oWJ3, by decide +kernel, by decide +kernel, by decide +kernel, by decide +kernel, by decide +kernel⟩
set_option maxRecDepth 100000 in
theorem k_X0_init : okD MX0_init := ⟨oPX0, by decide +kernel, by decide +kernel, by decide +kernel, by decide +kernel⟩
set_option maxRecDepth 100000 in
theorem k_X0_addRelation : okD MX0_addRelation := ⟨oPX0, by decide +kernel, by decide +kernel, by decide +kernel, by decide +kernel⟩
set_option maxRecDepth 100000 in
theorem k_X0_turn : okD MX0_turn := ⟨oPX0, by decide +kernel, by decide +kernel, by decide +kernel, by decide +kernel⟩
set_option maxRecDepth 100000 in
theorem k_X0_composeOne : okD MX0_composeOne := ⟨oPX0, by decide +kernel, by decide +kernel, by decide +kernel, by decide +kernel⟩
set_option maxRecDepth 100000 in
theorem k_X0_compose : okD MX0_compose := ⟨oPX0, by decide +kernel, by decide +kernel, by decide +kernel, by decide +kernel⟩
set_option maxRecDepth 100000 in
theorem k_X1_init : okD MX1_init := ⟨oPX1, by decide +kernel, by decide +kernel, by decide +kernel, by decide +kernel⟩
set_option maxRecDepth 100000 in
theorem k_X1_isEvent : okD MX1_isEvent := ⟨oPX1, by decide +kernel, by decide +kernel, by decide +kernel, by decide +kernel⟩
set_option maxRecDepth 100000 in
theorem k_X1_areTwo : okD MX1_areTwo := ⟨oPX1, by decide +kernel, by decide +kernel, by decide +kernel, by decide +kernel⟩
set_option maxRecDepth 100000 in
theorem k_X1_isObservation : okD MX1_isObservation := ⟨oPX1, by decide +kernel, by decide +kernel, by decide +kernel, by decide +kernel⟩
set_option maxRecDepth 100000 in
theorem k_X1_append : okD MX1_append := ⟨oPX1, by decide +kernel, by decide +kernel, by decide +kernel, by decide +kernel⟩
set_option maxRecDepth 100000 in
theorem k_X1_remove : okD MX1_remove := ⟨oPX1, by decide +kernel, by decide +kernel, by decide +kernel, by decide +kernel⟩
set_option maxRecDepth 100000 in
theorem k_X1_copyFrom : okD MX1_copyFrom := ⟨oPX1, by decide +kernel, by decide +kernel, by decide +kernel, by decide +kernel⟩
set_option maxRecDepth 100000 in
theorem k_X2_init : okD MX2_init := ⟨oPX2, by decide +kernel, by decide +kernel, by decide +kernel, by decide +kernel⟩
set_option maxRecDepth 100000 in
theorem k_X2_forgetAll : okD MX2_forgetAll := ⟨oPX2, by decide +kernel, by decide +kernel, by decide +kernel, by decide +kernel⟩
set_option maxRecDepth 100000 in
theorem k_X2_toldNet : okD MX2_toldNet := ⟨oPX2, by decide +kernel, by decide +kernel, by decide +kernel, by decide +kernel⟩
set_option maxRecDepth 100000 in
theorem k_X2_closedNet : okD MX2_closedNet := ⟨oPX2, by decide +kernel, by decide +kernel, by decide +kernel, by decide +kernel⟩
set_option maxRecDepth 100000 in
theorem k_X2_findHistories : okD MX2_findHistories := ⟨oPX2, by decide +kernel, by decide +kernel, by decide +kernel, by decide +kernel⟩
set_option maxRecDepth 100000 in
theorem k_X2_reallyNet : okD MX2_reallyNet := ⟨oPX2, by decide +kernel, by decide +kernel, by decide +kernel, by decide +kernel⟩
set_option maxRecDepth 100000 in
theorem k_X2_tryRelation : okD MX2_tryRelation := ⟨oPX2, by decide +kernel, by decide +kernel, by decide +kernel, by decide +kernel⟩
set_option maxRecDepth 100000 in
theorem k_X2_mark : okD MX2_mark := ⟨oPX2, by decide +kernel, by decide +kernel, by decide +kernel, by decide +kernel⟩
set_option maxRecDepth 100000 in
theorem k_X2_hasHistoryWithout : okD MX2_hasHistoryWithout := ⟨oPX2, by decide +kernel, by decide +kernel, by decide +kernel, by decide +kernel⟩
set_option maxRecDepth 100000 in
theorem k_X2_quarrel : okD MX2_quarrel := ⟨oPX2, by decide +kernel, by decide +kernel, by decide +kernel, by decide +kernel⟩
set_option maxRecDepth 100000 in
theorem k_X2_blame : okD MX2_blame := ⟨oPX2, by decide +kernel, by decide +kernel, by decide +kernel, by decide +kernel⟩
set_option maxRecDepth 100000 in
theorem k_X2_eldestEvents : okD MX2_eldestEvents := ⟨oPX2, by decide +kernel, by decide +kernel, by decide +kernel, by decide +kernel⟩
set_option maxRecDepth 100000 in
theorem k_X2_suspects : okD MX2_suspects := ⟨oPX2, by decide +kernel, by decide +kernel, by decide +kernel, by decide +kernel⟩
set_option maxRecDepth 100000 in
theorem k_X3_init : okD MX3_init := ⟨oPX3, by decide +kernel, by decide +kernel, by decide +kernel, by decide +kernel⟩
set_option maxRecDepth 100000 in
theorem k_X3_dropAll : okD MX3_dropAll := ⟨oPX3, by decide +kernel, by decide +kernel, by decide +kernel, by decide +kernel⟩
set_option maxRecDepth 100000 in
theorem k_X3_find : okD MX3_find := ⟨oPX3, by decide +kernel, by decide +kernel, by decide +kernel, by decide +kernel⟩
set_option maxRecDepth 100000 in
theorem k_X3_search : okD MX3_search := ⟨oPX3, by decide +kernel, by decide +kernel, by decide +kernel, by decide +kernel⟩
set_option maxRecDepth 100000 in
theorem k_X3_zoneStart : okD MX3_zoneStart := ⟨oPX3, by decide +kernel, by decide +kernel, by decide +kernel, by decide +kernel⟩
set_option maxRecDepth 100000 in
theorem k_X3_zoneEnd : okD MX3_zoneEnd := ⟨oPX3, by decide +kernel, by decide +kernel, by decide +kernel, by decide +kernel⟩
set_option maxRecDepth 100000 in
theorem k_X3_place : okD MX3_place := ⟨oPX3, by decide +kernel, by decide +kernel, by decide +kernel, by decide +kernel⟩
set_option maxRecDepth 100000 in
theorem k_X3_leavesRoom : okD MX3_leavesRoom := ⟨oPX3, by decide +kernel, by decide +kernel, by decide +kernel, by decide +kernel⟩
set_option maxRecDepth 100000 in
theorem k_X3_narrow : okD MX3_narrow := ⟨oPX3, by decide +kernel, by decide +kernel, by decide +kernel, by decide +kernel⟩
set_option maxRecDepth 100000 in
theorem k_X3_write : okD MX3_write := ⟨oPX3, by decide +kernel, by decide +kernel, by decide +kernel, by decide +kernel⟩
set_option maxRecDepth 100000 in
theorem k_X3_relation : okD MX3_relation := ⟨oPX3, by decide +kernel, by decide +kernel, by decide +kernel, by decide +kernel⟩
set_option maxRecDepth 100000 in
theorem k_X3_pointOf : okD MX3_pointOf := ⟨oPX3, by decide +kernel, by decide +kernel, by decide +kernel, by decide +kernel⟩
set_option maxRecDepth 100000 in
theorem k_X3_allPoints : okD MX3_allPoints := ⟨oPX3, by decide +kernel, by decide +kernel, by decide +kernel, by decide +kernel⟩
set_option maxRecDepth 100000 in
theorem k_X3_pointsAhead : okD MX3_pointsAhead := ⟨oPX3, by decide +kernel, by decide +kernel, by decide +kernel, by decide +kernel⟩
set_option maxRecDepth 100000 in
theorem k_X3_isFirstAtItsTime : okD MX3_isFirstAtItsTime := ⟨oPX3, by decide +kernel, by decide +kernel, by decide +kernel, by decide +kernel⟩
set_option maxRecDepth 100000 in
theorem k_X4_init : okD MX4_init := ⟨oPX4, by decide +kernel, by decide +kernel, by decide +kernel, by decide +kernel⟩
set_option maxRecDepth 100000 in
theorem k_X4_at : okD MX4_at := ⟨oPX4, by decide +kernel, by decide +kernel, by decide +kernel, by decide +kernel⟩
set_option maxRecDepth 100000 in
theorem k_X4_put : okD MX4_put := ⟨oPX4, by decide +kernel, by decide +kernel, by decide +kernel, by decide +kernel⟩
set_option maxRecDepth 100000 in
theorem k_X4_tell : okD MX4_tell := ⟨oPX4, by decide +kernel, by decide +kernel, by decide +kernel, by decide +kernel⟩
set_option maxRecDepth 100000 in
theorem k_X4_hold : okD MX4_hold := ⟨oPX4, by decide +kernel, by decide +kernel, by decide +kernel, by decide +kernel⟩
set_option maxRecDepth 100000 in
theorem k_X4_copyFrom : okD MX4_copyFrom := ⟨oPX4, by decide +kernel, by decide +kernel, by decide +kernel, by decide +kernel⟩
set_option maxRecDepth 100000 in
theorem k_X4_close : okD MX4_close := ⟨oPX4, by decide +kernel, by decide +kernel, by decide +kernel, by decide +kernel⟩
set_option maxRecDepth 100000 in
theorem k_X4_empty : okD MX4_empty := ⟨oPX4, by decide +kernel, by decide +kernel, by decide +kernel, by decide +kernel⟩
set_option maxRecDepth 100000 in
theorem k_X4_spread : okD MX4_spread := ⟨oPX4, by decide +kernel, by decide +kernel, by decide +kernel, by decide +kernel⟩
set_option maxRecDepth 100000 in
theorem k_X4_narrow : okD MX4_narrow := ⟨oPX4, by decide +kernel, by decide +kernel, by decide +kernel, by decide +kernel⟩
set_option maxRecDepth 100000 in
theorem k_X5_init : okD MX5_init := ⟨oPX5, by decide +kernel, by decide +kernel, by decide +kernel, by decide +kernel⟩
set_option maxRecDepth 100000 in
theorem k_X5_remember : okD MX5_remember := ⟨oPX5, by decide +kernel, by decide +kernel, by decide +kernel, by decide +kernel⟩
set_option maxRecDepth 100000 in
theorem k_X5_loseOldest : okD MX5_loseOldest := ⟨oPX5, by decide +kernel, by decide +kernel, by decide +kernel, by decide +kernel⟩
set_option maxRecDepth 100000 in
theorem k_X5_recall : okD MX5_recall := ⟨oPX5, by decide +kernel, by decide +kernel, by decide +kernel, by decide +kernel⟩
set_option maxRecDepth 100000 in
theorem k_X5_dropAll : okD MX5_dropAll := ⟨oPX5, by decide +kernel, by decide +kernel, by decide +kernel, by decide +kernel⟩
set_option maxRecDepth 100000 in
theorem k_X6_init : okD MX6_init := ⟨oPX6, by decide +kernel, by decide +kernel, by decide +kernel, by decide +kernel⟩
set_option maxRecDepth 100000 in
theorem k_X6_readText : okD MX6_readText := ⟨oPX6, by decide +kernel, by decide +kernel, by decide +kernel, by decide +kernel⟩
set_option maxRecDepth 100000 in
theorem k_X6_readItem : okD MX6_readItem := ⟨oPX6, by decide +kernel, by decide +kernel, by decide +kernel, by decide +kernel⟩
set_option maxRecDepth 100000 in
theorem k_X6_readEvents : okD MX6_readEvents := ⟨oPX6, by decide +kernel, by decide +kernel, by decide +kernel, by decide +kernel⟩
set_option maxRecDepth 100000 in
theorem k_X6_readObservation : okD MX6_readObservation := ⟨oPX6, by decide +kernel, by decide +kernel, by decide +kernel, by decide +kernel⟩
set_option maxRecDepth 100000 in
theorem k_X6_eventOfToken : okD MX6_eventOfToken := ⟨oPX6, by decide +kernel, by decide +kernel, by decide +kernel, by decide +kernel⟩
set_option maxRecDepth 100000 in
theorem k_X6_setOfToken : okD MX6_setOfToken := ⟨oPX6, by decide +kernel, by decide +kernel, by decide +kernel, by decide +kernel⟩
set_option maxRecDepth 100000 in
theorem k_X6_isRow : okD MX6_isRow := ⟨oPX6, by decide +kernel, by decide +kernel, by decide +kernel, by decide +kernel⟩
set_option maxRecDepth 100000 in
theorem k_X6_readToken : okD MX6_readToken := ⟨oPX6, by decide +kernel, by decide +kernel, by decide +kernel, by decide +kernel⟩
set_option maxRecDepth 100000 in
theorem k_X6_kindAt : okD MX6_kindAt := ⟨oPX6, by decide +kernel, by decide +kernel, by decide +kernel, by decide +kernel⟩
set_option maxRecDepth 100000 in
theorem k_X6_readValue : okD MX6_readValue := ⟨oPX6, by decide +kernel, by decide +kernel, by decide +kernel, by decide +kernel⟩
set_option maxRecDepth 100000 in
theorem k_X7_init : okD MX7_init := ⟨oPX7, by decide +kernel, by decide +kernel, by decide +kernel, by decide +kernel⟩
set_option maxRecDepth 100000 in
theorem k_X7_append : okD MX7_append := ⟨oPX7, by decide +kernel, by decide +kernel, by decide +kernel, by decide +kernel⟩
set_option maxRecDepth 100000 in
theorem k_X7_isSoIn : okD MX7_isSoIn := ⟨oPX7, by decide +kernel, by decide +kernel, by decide +kernel, by decide +kernel⟩
set_option maxRecDepth 100000 in
theorem k_X8_init : okD MX8_init := ⟨oPX8, by decide +kernel, by decide +kernel, by decide +kernel, by decide +kernel⟩
set_option maxRecDepth 100000 in
theorem k_X8_type : okD MX8_type := ⟨oPX8, by decide +kernel, by decide +kernel, by decide +kernel, by decide +kernel⟩
set_option maxRecDepth 100000 in
theorem k_X8_clear : okD MX8_clear := ⟨oPX8, by decide +kernel, by decide +kernel, by decide +kernel, by decide +kernel⟩
set_option maxRecDepth 100000 in
theorem k_X8_tells : okD MX8_tells := ⟨oPX8, by decide +kernel, by decide +kernel, by decide +kernel, by decide +kernel⟩
set_option maxRecDepth 100000 in
theorem k_X8_observed : okD MX8_observed := ⟨oPX8, by decide +kernel, by decide +kernel, by decide +kernel, by decide +kernel⟩
set_option maxRecDepth 100000 in
theorem k_X8_adds : okD MX8_adds := ⟨oPX8, by decide +kernel, by decide +kernel, by decide +kernel, by decide +kernel⟩
set_option maxRecDepth 100000 in
theorem k_X8_takes : okD MX8_takes := ⟨oPX8, by decide +kernel, by decide +kernel, by decide +kernel, by decide +kernel⟩
set_option maxRecDepth 100000 in
theorem k_X8_turns : okD MX8_turns := ⟨oPX8, by decide +kernel, by decide +kernel, by decide +kernel, by decide +kernel⟩
set_option maxRecDepth 100000 in
theorem k_X8_undo : okD MX8_undo := ⟨oPX8, by decide +kernel, by decide +kernel, by decide +kernel, by decide +kernel⟩
set_option maxRecDepth 100000 in
theorem k_X8_turned : okD MX8_turned := ⟨oPX8, by decide +kernel, by decide +kernel, by decide +kernel, by decide +kernel⟩
set_option maxRecDepth 100000 in
theorem k_X8_composed : okD MX8_composed := ⟨oPX8, by decide +kernel, by decide +kernel, by decide +kernel, by decide +kernel⟩
set_option maxRecDepth 100000 in
theorem k_X8_left : okD MX8_left := ⟨oPX8, by decide +kernel, by decide +kernel, by decide +kernel, by decide +kernel⟩
set_option maxRecDepth 100000 in
theorem k_X8_many : okD MX8_many := ⟨oPX8, by decide +kernel, by decide +kernel, by decide +kernel, by decide +kernel⟩
set_option maxRecDepth 100000 in
theorem k_X8_history : okD MX8_history := ⟨oPX8, by decide +kernel, by decide +kernel, by decide +kernel, by decide +kernel⟩
set_option maxRecDepth 100000 in
theorem k_X8_point : okD MX8_point := ⟨oPX8, by decide +kernel, by decide +kernel, by decide +kernel, by decide +kernel⟩
set_option maxRecDepth 100000 in
theorem k_X8_wrong : okD MX8_wrong := ⟨oPX8, by decide +kernel, by decide +kernel, by decide +kernel, by decide +kernel⟩
set_option maxRecDepth 100000 in
theorem k_X8_eldest : okD MX8_eldest := ⟨oPX8, by decide +kernel, by decide +kernel, by decide +kernel, by decide +kernel⟩
set_option maxRecDepth 100000 in
theorem k_X8_next : okD MX8_next := ⟨oPX8, by decide +kernel, by decide +kernel, by decide +kernel, by decide +kernel⟩
set_option maxRecDepth 100000 in
theorem k_X8_sees : okD MX8_sees := ⟨oPX8, by decide +kernel, by decide +kernel, by decide +kernel, by decide +kernel⟩
set_option maxRecDepth 100000 in
theorem k_X8_forget : okD MX8_forget := ⟨oPX8, by decide +kernel, by decide +kernel, by decide +kernel, by decide +kernel⟩
set_option maxRecDepth 100000 in
theorem k_X8_unseen : okD MX8_unseen := ⟨oPX8, by decide +kernel, by decide +kernel, by decide +kernel, by decide +kernel⟩
set_option maxRecDepth 100000 in
theorem k_X8_keep : okD MX8_keep := ⟨oPX8, by decide +kernel, by decide +kernel, by decide +kernel, by decide +kernel⟩
set_option maxRecDepth 100000 in
theorem k_X8_back : okD MX8_back := ⟨oPX8, by decide +kernel, by decide +kernel, by decide +kernel, by decide +kernel⟩
set_option maxRecDepth 100000 in
theorem k_X8_count : okD MX8_count := ⟨oPX8, by decide +kernel, by decide +kernel, by decide +kernel, by decide +kernel⟩
set_option maxRecDepth 100000 in
theorem k_X8_isRelation : okD MX8_isRelation := ⟨oPX8, by decide +kernel, by decide +kernel, by decide +kernel, by decide +kernel⟩
set_option maxRecDepth 100000 in
theorem k_X8_isSet : okD MX8_isSet := ⟨oPX8, by decide +kernel, by decide +kernel, by decide +kernel, by decide +kernel⟩
set_option maxRecDepth 100000 in
theorem k_X8_isToldSet : okD MX8_isToldSet := ⟨oPX8, by decide +kernel, by decide +kernel, by decide +kernel, by decide +kernel⟩
set_option maxRecDepth 100000 in
theorem k_X8_pairOf : okD MX8_pairOf := ⟨oPX8, by decide +kernel, by decide +kernel, by decide +kernel, by decide +kernel⟩
set_option maxRecDepth 100000 in
theorem k_X8_pairsOf : okD MX8_pairsOf := ⟨oPX8, by decide +kernel, by decide +kernel, by decide +kernel, by decide +kernel⟩
set_option maxRecDepth 100000 in
theorem k_X9_init : okD MX9_init := ⟨oPX9, by decide +kernel, by decide +kernel, by decide +kernel, by decide +kernel⟩
set_option maxRecDepth 100000 in
theorem k_X9_in : okD MX9_in := ⟨oPX9, by decide +kernel, by decide +kernel, by decide +kernel, by decide +kernel⟩
set_option maxRecDepth 100000 in
theorem k_X9_beginOf : okD MX9_beginOf := ⟨oPX9, by decide +kernel, by decide +kernel, by decide +kernel, by decide +kernel⟩
set_option maxRecDepth 100000 in
theorem k_X9_endOf : okD MX9_endOf := ⟨oPX9, by decide +kernel, by decide +kernel, by decide +kernel, by decide +kernel⟩
set_option maxRecDepth 100000 in
theorem k_X9_laid : okD MX9_laid := ⟨oPX9, by decide +kernel, by decide +kernel, by decide +kernel, by decide +kernel⟩
set_option maxRecDepth 100000 in
theorem k_X9_relationOf : okD MX9_relationOf := ⟨oPX9, by decide +kernel, by decide +kernel, by decide +kernel, by decide +kernel⟩
set_option maxRecDepth 100000 in
theorem k_X9_turnedSet : okD MX9_turnedSet := ⟨oPX9, by decide +kernel, by decide +kernel, by decide +kernel, by decide +kernel⟩
set_option maxRecDepth 100000 in
theorem k_X9_composedOf : okD MX9_composedOf := ⟨oPX9, by decide +kernel, by decide +kernel, by decide +kernel, by decide +kernel⟩
set_option maxRecDepth 100000 in
theorem k_X9_turned : okD MX9_turned := ⟨oPX9, by decide +kernel, by decide +kernel, by decide +kernel, by decide +kernel⟩
set_option maxRecDepth 100000 in
theorem k_X9_composed : okD MX9_composed := ⟨oPX9, by decide +kernel, by decide +kernel, by decide +kernel, by decide +kernel⟩
set_option maxRecDepth 100000 in
theorem k_X9_x : okD MX9_x := ⟨oPX9, by decide +kernel, by decide +kernel, by decide +kernel, by decide +kernel⟩
set_option maxRecDepth 100000 in
theorem k_X9_set : okD MX9_set := ⟨oPX9, by decide +kernel, by decide +kernel, by decide +kernel, by decide +kernel⟩
set_option maxRecDepth 100000 in
theorem k_X9_y : okD MX9_y := ⟨oPX9, by decide +kernel, by decide +kernel, by decide +kernel, by decide +kernel⟩
set_option maxRecDepth 100000 in
theorem k_X9_toldOf : okD MX9_toldOf := ⟨oPX9, by decide +kernel, by decide +kernel, by decide +kernel, by decide +kernel⟩
set_option maxRecDepth 100000 in
theorem k_X9_pairs : okD MX9_pairs := ⟨oPX9, by decide +kernel, by decide +kernel, by decide +kernel, by decide +kernel⟩
set_option maxRecDepth 100000 in
theorem k_X9_pairOf : okD MX9_pairOf := ⟨oPX9, by decide +kernel, by decide +kernel, by decide +kernel, by decide +kernel⟩
set_option maxRecDepth 100000 in
theorem k_X9_highOf : okD MX9_highOf := ⟨oPX9, by decide +kernel, by decide +kernel, by decide +kernel, by decide +kernel⟩
set_option maxRecDepth 100000 in
theorem k_X9_lowOf : okD MX9_lowOf := ⟨oPX9, by decide +kernel, by decide +kernel, by decide +kernel, by decide +kernel⟩
set_option maxRecDepth 100000 in
theorem k_X9_lets : okD MX9_lets := ⟨oPX9, by decide +kernel, by decide +kernel, by decide +kernel, by decide +kernel⟩
set_option maxRecDepth 100000 in
theorem k_X9_agrees : okD MX9_agrees := ⟨oPX9, by decide +kernel, by decide +kernel, by decide +kernel, by decide +kernel⟩
set_option maxRecDepth 100000 in
theorem k_X9_isNext : okD MX9_isNext := ⟨oPX9, by decide +kernel, by decide +kernel, by decide +kernel, by decide +kernel⟩
set_option maxRecDepth 100000 in
theorem k_X9_triedOf : okD MX9_triedOf := ⟨oPX9, by decide +kernel, by decide +kernel, by decide +kernel, by decide +kernel⟩
set_option maxRecDepth 100000 in
theorem k_X9_isWithout : okD MX9_isWithout := ⟨oPX9, by decide +kernel, by decide +kernel, by decide +kernel, by decide +kernel⟩
set_option maxRecDepth 100000 in
theorem k_X9_lays : okD MX9_lays := ⟨oPX9, by decide +kernel, by decide +kernel, by decide +kernel, by decide +kernel⟩
set_option maxRecDepth 100000 in
theorem k_X9_closes : okD MX9_closes := ⟨oPX9, by decide +kernel, by decide +kernel, by decide +kernel, by decide +kernel⟩
set_option maxRecDepth 100000 in
theorem k_X9_isEvent : okD MX9_isEvent := ⟨oPX9, by decide +kernel, by decide +kernel, by decide +kernel, by decide +kernel⟩
set_option maxRecDepth 100000 in
theorem k_X9_areTwo : okD MX9_areTwo := ⟨oPX9, by decide +kernel, by decide +kernel, by decide +kernel, by decide +kernel⟩
set_option maxRecDepth 100000 in
theorem k_X9_reallyOf : okD MX9_reallyOf := ⟨oPX9, by decide +kernel, by decide +kernel, by decide +kernel, by decide +kernel⟩
set_option maxRecDepth 100000 in
theorem k_X9_left : okD MX9_left := ⟨oPX9, by decide +kernel, by decide +kernel, by decide +kernel, by decide +kernel⟩
set_option maxRecDepth 100000 in
theorem k_X9_many : okD MX9_many := ⟨oPX9, by decide +kernel, by decide +kernel, by decide +kernel, by decide +kernel⟩
set_option maxRecDepth 100000 in
theorem k_X9_history : okD MX9_history := ⟨oPX9, by decide +kernel, by decide +kernel, by decide +kernel, by decide +kernel⟩
set_option maxRecDepth 100000 in
theorem k_X9_farOf : okD MX9_farOf := ⟨oPX9, by decide +kernel, by decide +kernel, by decide +kernel, by decide +kernel⟩
set_option maxRecDepth 100000 in
theorem k_X9_timesAhead : okD MX9_timesAhead := ⟨oPX9, by decide +kernel, by decide +kernel, by decide +kernel, by decide +kernel⟩
set_option maxRecDepth 100000 in
theorem k_X9_point : okD MX9_point := ⟨oPX9, by decide +kernel, by decide +kernel, by decide +kernel, by decide +kernel⟩
set_option maxRecDepth 100000 in
theorem k_X9_quarrel : okD MX9_quarrel := ⟨oPX9, by decide +kernel, by decide +kernel, by decide +kernel, by decide +kernel⟩
set_option maxRecDepth 100000 in
theorem k_X9_blame : okD MX9_blame := ⟨oPX9, by decide +kernel, by decide +kernel, by decide +kernel, by decide +kernel⟩
set_option maxRecDepth 100000 in
theorem k_X9_wrong : okD MX9_wrong := ⟨oPX9, by decide +kernel, by decide +kernel, by decide +kernel, by decide +kernel⟩
set_option maxRecDepth 100000 in
theorem k_X9_eldest : okD MX9_eldest := ⟨oPX9, by decide +kernel, by decide +kernel, by decide +kernel, by decide +kernel⟩
set_option maxRecDepth 100000 in
theorem k_X9_bits : okD MX9_bits := ⟨oPX9, by decide +kernel, by decide +kernel, by decide +kernel, by decide +kernel⟩
set_option maxRecDepth 100000 in
theorem k_X9_next : okD MX9_next := ⟨oPX9, by decide +kernel, by decide +kernel, by decide +kernel, by decide +kernel⟩
set_option maxRecDepth 100000 in
theorem k_X9_sees : okD MX9_sees := ⟨oPX9, by decide +kernel, by decide +kernel, by decide +kernel, by decide +kernel⟩
set_option maxRecDepth 100000 in
theorem k_X9_forget : okD MX9_forget := ⟨oPX9, by decide +kernel, by decide +kernel, by decide +kernel, by decide +kernel⟩
set_option maxRecDepth 100000 in
theorem k_X9_unseen : okD MX9_unseen := ⟨oPX9, by decide +kernel, by decide +kernel, by decide +kernel, by decide +kernel⟩
set_option maxRecDepth 100000 in
theorem k_X9_deed : okD MX9_deed := ⟨oPX9, by decide +kernel, by decide +kernel, by decide +kernel, by decide +kernel⟩
set_option maxRecDepth 100000 in
theorem k_X9_isObservation : okD MX9_isObservation := ⟨oPX9, by decide +kernel, by decide +kernel, by decide +kernel, by decide +kernel⟩
set_option maxRecDepth 100000 in
theorem k_X9_observed : okD MX9_observed := ⟨oPX9, by decide +kernel, by decide +kernel, by decide +kernel, by decide +kernel⟩
set_option maxRecDepth 100000 in
theorem k_X9_adds : okD MX9_adds := ⟨oPX9, by decide +kernel, by decide +kernel, by decide +kernel, by decide +kernel⟩
set_option maxRecDepth 100000 in
theorem k_X9_takes : okD MX9_takes := ⟨oPX9, by decide +kernel, by decide +kernel, by decide +kernel, by decide +kernel⟩
set_option maxRecDepth 100000 in
theorem k_X9_turns : okD MX9_turns := ⟨oPX9, by decide +kernel, by decide +kernel, by decide +kernel, by decide +kernel⟩
set_option maxRecDepth 100000 in
theorem k_X9_undo : okD MX9_undo := ⟨oPX9, by decide +kernel, by decide +kernel, by decide +kernel, by decide +kernel⟩
set_option maxRecDepth 100000 in
theorem k_X9_keep : okD MX9_keep := ⟨oPX9, by decide +kernel, by decide +kernel, by decide +kernel, by decide +kernel⟩
set_option maxRecDepth 100000 in
theorem k_X9_back : okD MX9_back := ⟨oPX9, by decide +kernel, by decide +kernel, by decide +kernel, by decide +kernel⟩
set_option maxRecDepth 100000 in
theorem k_X9_type : okD MX9_type := ⟨oPX9, by decide +kernel, by decide +kernel, by decide +kernel, by decide +kernel⟩
set_option maxRecDepth 100000 in
theorem k_X9_clear : okD MX9_clear := ⟨oPX9, by decide +kernel, by decide +kernel, by decide +kernel, by decide +kernel⟩
set_option maxRecDepth 100000 in
theorem k_X9_row : okD MX9_row := ⟨oPX9, by decide +kernel, by decide +kernel, by decide +kernel, by decide +kernel⟩
set_option maxRecDepth 100000 in
theorem k_X9_split : okD MX9_split := ⟨oPX9, by decide +kernel, by decide +kernel, by decide +kernel, by decide +kernel⟩
set_option maxRecDepth 100000 in
theorem k_X9_isKind : okD MX9_isKind := ⟨oPX9, by decide +kernel, by decide +kernel, by decide +kernel, by decide +kernel⟩
set_option maxRecDepth 100000 in
theorem k_X9_letterAt : okD MX9_letterAt := ⟨oPX9, by decide +kernel, by decide +kernel, by decide +kernel, by decide +kernel⟩
set_option maxRecDepth 100000 in
theorem k_X9_isWord : okD MX9_isWord := ⟨oPX9, by decide +kernel, by decide +kernel, by decide +kernel, by decide +kernel⟩
set_option maxRecDepth 100000 in
theorem k_X9_setTold : okD MX9_setTold := ⟨oPX9, by decide +kernel, by decide +kernel, by decide +kernel, by decide +kernel⟩
set_option maxRecDepth 100000 in
theorem k_X9_takesEvent : okD MX9_takesEvent := ⟨oPX9, by decide +kernel, by decide +kernel, by decide +kernel, by decide +kernel⟩
set_option maxRecDepth 100000 in
theorem k_X9_item : okD MX9_item := ⟨oPX9, by decide +kernel, by decide +kernel, by decide +kernel, by decide +kernel⟩
set_option maxRecDepth 100000 in
theorem k_X9_manyTold : okD MX9_manyTold := ⟨oPX9, by decide +kernel, by decide +kernel, by decide +kernel, by decide +kernel⟩
set_option maxRecDepth 100000 in
theorem k_X9_tells : okD MX9_tells := ⟨oPX9, by decide +kernel, by decide +kernel, by decide +kernel, by decide +kernel⟩
set_option maxRecDepth 100000 in
theorem k_X9_count : okD MX9_count := ⟨oPX9, by decide +kernel, by decide +kernel, by decide +kernel, by decide +kernel⟩
set_option maxRecDepth 100000 in
theorem k_J6_bitCount_0f7a4 : okD MJ6_bitCount_0f7a4 := ⟨oPJ6, by decide +kernel, by decide +kernel, by decide +kernel, by decide +kernel⟩
set_option maxRecDepth 100000 in
theorem k_J0_length_8abf5 : okD MJ0_length_8abf5 := ⟨oPJ0, by decide +kernel, by decide +kernel, by decide +kernel, by decide +kernel⟩
set_option maxRecDepth 100000 in
theorem k_J0_charAt_5068e : okD MJ0_charAt_5068e := ⟨oPJ0, by decide +kernel, by decide +kernel, by decide +kernel, by decide +kernel⟩
set_option maxRecDepth 100000 in
theorem k_J0_coder_7d493 : okD MJ0_coder_7d493 := ⟨oPJ0, by decide +kernel, by decide +kernel, by decide +kernel, by decide +kernel⟩
set_option maxRecDepth 100000 in
theorem k_J0_isLatin1_aae02 : okD MJ0_isLatin1_aae02 := ⟨oPJ0, by decide +kernel, by decide +kernel, by decide +kernel, by decide +kernel⟩
set_option maxRecDepth 100000 in
theorem k_J0_checkIndex_df160 : okD MJ0_checkIndex_df160 := ⟨oPJ0, by decide +kernel, by decide +kernel, by decide +kernel, by decide +kernel⟩
set_option maxRecDepth 100000 in
theorem k_J1_charAt_3b067 : okD MJ1_charAt_3b067 := ⟨oPJ1, by decide +kernel, by decide +kernel, by decide +kernel, by decide +kernel⟩
set_option maxRecDepth 100000 in
theorem k_J3_checkIndex_8e157 : okD MJ3_checkIndex_8e157 := ⟨oPJ3, by decide +kernel, by decide +kernel, by decide +kernel, by decide +kernel⟩
set_option maxRecDepth 100000 in
theorem k_L_law : okD ML_law := ⟨oPL, by decide +kernel, by decide +kernel, by decide +kernel, by decide +kernel⟩
