-- ===== PART A: goes FIRST, ahead of the names: the tables' words, and 'selects' of the private methods out of them =====
/-- a private method of a class that the tables say can be made, by its rows of tables_1 -/
def lw_okq (q : MethodName × Nat) : Prop := (q.1.cls ≠ "java/lang/invoke/MethodHandle" ∧ q.1.cls ≠ "java/lang/invoke/VarHandle") ∧ Cond.instantiable q.1.cls q.2 ∈ tables_1 ∧ Cond.privateMethod q.1 ∈ tables_1 ∧ Cond.instanceMethod q.1 ∈ tables_1
theorem lw_p0 : lw_okq (⟨"RedrawnLines", "fail", "(I)I"⟩, 19) := ⟨⟨by decide +kernel, by decide +kernel⟩, List.mem_of_getElem? (i := 18) (by decide +kernel), List.mem_of_getElem? (i := 302) (by decide +kernel), List.mem_of_getElem? (i := 303) (by decide +kernel)⟩
theorem lw_p1 : lw_okq (⟨"RedrawnLines$Text", "isAsTold", "(II)Z"⟩, 1) := ⟨⟨by decide +kernel, by decide +kernel⟩, List.mem_of_getElem? (i := 467) (by decide +kernel), List.mem_of_getElem? (i := 489) (by decide +kernel), List.mem_of_getElem? (i := 490) (by decide +kernel)⟩
theorem lw_p2 : lw_okq (⟨"RedrawnLines", "owedTo", "(II)I"⟩, 19) := ⟨⟨by decide +kernel, by decide +kernel⟩, List.mem_of_getElem? (i := 18) (by decide +kernel), List.mem_of_getElem? (i := 498) (by decide +kernel), List.mem_of_getElem? (i := 499) (by decide +kernel)⟩
theorem lw_p3 : lw_okq (⟨"RedrawnLines", "textFor", "(II)I"⟩, 19) := ⟨⟨by decide +kernel, by decide +kernel⟩, List.mem_of_getElem? (i := 18) (by decide +kernel), List.mem_of_getElem? (i := 502) (by decide +kernel), List.mem_of_getElem? (i := 503) (by decide +kernel)⟩
theorem lw_p4 : lw_okq (⟨"RedrawnLines", "isTrip", "(I)Z"⟩, 19) := ⟨⟨by decide +kernel, by decide +kernel⟩, List.mem_of_getElem? (i := 18) (by decide +kernel), List.mem_of_getElem? (i := 575) (by decide +kernel), List.mem_of_getElem? (i := 576) (by decide +kernel)⟩
theorem lw_p5 : lw_okq (⟨"RedrawnLines", "arrival", "(II)I"⟩, 19) := ⟨⟨by decide +kernel, by decide +kernel⟩, List.mem_of_getElem? (i := 18) (by decide +kernel), List.mem_of_getElem? (i := 586) (by decide +kernel), List.mem_of_getElem? (i := 587) (by decide +kernel)⟩
theorem lw_p6 : lw_okq (⟨"RedrawnLines$WayFinder", "thin", "([II)V"⟩, 7) := ⟨⟨by decide +kernel, by decide +kernel⟩, List.mem_of_getElem? (i := 65) (by decide +kernel), List.mem_of_getElem? (i := 597) (by decide +kernel), List.mem_of_getElem? (i := 598) (by decide +kernel)⟩
theorem lw_p7 : lw_okq (⟨"RedrawnLines$WayFinder", "walkOn", "(I)V"⟩, 7) := ⟨⟨by decide +kernel, by decide +kernel⟩, List.mem_of_getElem? (i := 65) (by decide +kernel), List.mem_of_getElem? (i := 602) (by decide +kernel), List.mem_of_getElem? (i := 603) (by decide +kernel)⟩
theorem lw_p8 : lw_okq (⟨"RedrawnLines$WayFinder", "walkFrom", "(III)V"⟩, 7) := ⟨⟨by decide +kernel, by decide +kernel⟩, List.mem_of_getElem? (i := 65) (by decide +kernel), List.mem_of_getElem? (i := 607) (by decide +kernel), List.mem_of_getElem? (i := 608) (by decide +kernel)⟩
theorem lw_p9 : lw_okq (⟨"RedrawnLines$WayFinder", "noteArrival", "(LRedrawnLines$Trip;I)V"⟩, 7) := ⟨⟨by decide +kernel, by decide +kernel⟩, List.mem_of_getElem? (i := 65) (by decide +kernel), List.mem_of_getElem? (i := 612) (by decide +kernel), List.mem_of_getElem? (i := 613) (by decide +kernel)⟩
theorem lw_p10 : lw_okq (⟨"RedrawnLines$WayFinder", "remember", "(I)I"⟩, 7) := ⟨⟨by decide +kernel, by decide +kernel⟩, List.mem_of_getElem? (i := 65) (by decide +kernel), List.mem_of_getElem? (i := 616) (by decide +kernel), List.mem_of_getElem? (i := 617) (by decide +kernel)⟩
theorem lw_p11 : lw_okq (⟨"RedrawnLines$WayFinder", "rideOn", "(II)V"⟩, 7) := ⟨⟨by decide +kernel, by decide +kernel⟩, List.mem_of_getElem? (i := 65) (by decide +kernel), List.mem_of_getElem? (i := 620) (by decide +kernel), List.mem_of_getElem? (i := 621) (by decide +kernel)⟩
theorem lw_p12 : lw_okq (⟨"RedrawnLines$WayFinder", "rideAlong", "(LRedrawnLines$Line;I)V"⟩, 7) := ⟨⟨by decide +kernel, by decide +kernel⟩, List.mem_of_getElem? (i := 65) (by decide +kernel), List.mem_of_getElem? (i := 625) (by decide +kernel), List.mem_of_getElem? (i := 626) (by decide +kernel)⟩
theorem lw_p13 : lw_okq (⟨"RedrawnLines", "offeredLines", "(I)I"⟩, 19) := ⟨⟨by decide +kernel, by decide +kernel⟩, List.mem_of_getElem? (i := 18) (by decide +kernel), List.mem_of_getElem? (i := 647) (by decide +kernel), List.mem_of_getElem? (i := 648) (by decide +kernel)⟩
theorem lw_p14 : lw_okq (⟨"RedrawnLines", "tallyOf", "(II)LRedrawnLines$Tally;"⟩, 19) := ⟨⟨by decide +kernel, by decide +kernel⟩, List.mem_of_getElem? (i := 18) (by decide +kernel), List.mem_of_getElem? (i := 657) (by decide +kernel), List.mem_of_getElem? (i := 658) (by decide +kernel)⟩
theorem lw_p15 : lw_okq (⟨"RedrawnLines", "emptyMinutes", "(LRedrawnLines$Line;LRedrawnLines$Depot;)I"⟩, 19) := ⟨⟨by decide +kernel, by decide +kernel⟩, List.mem_of_getElem? (i := 18) (by decide +kernel), List.mem_of_getElem? (i := 715) (by decide +kernel), List.mem_of_getElem? (i := 716) (by decide +kernel)⟩
def lw_privs_1 : List (MethodName × Nat) := [(⟨"RedrawnLines", "fail", "(I)I"⟩, 19), (⟨"RedrawnLines$Text", "isAsTold", "(II)Z"⟩, 1), (⟨"RedrawnLines", "owedTo", "(II)I"⟩, 19), (⟨"RedrawnLines", "textFor", "(II)I"⟩, 19), (⟨"RedrawnLines", "isTrip", "(I)Z"⟩, 19), (⟨"RedrawnLines", "arrival", "(II)I"⟩, 19), (⟨"RedrawnLines$WayFinder", "thin", "([II)V"⟩, 7), (⟨"RedrawnLines$WayFinder", "walkOn", "(I)V"⟩, 7), (⟨"RedrawnLines$WayFinder", "walkFrom", "(III)V"⟩, 7), (⟨"RedrawnLines$WayFinder", "noteArrival", "(LRedrawnLines$Trip;I)V"⟩, 7), (⟨"RedrawnLines$WayFinder", "remember", "(I)I"⟩, 7), (⟨"RedrawnLines$WayFinder", "rideOn", "(II)V"⟩, 7), (⟨"RedrawnLines$WayFinder", "rideAlong", "(LRedrawnLines$Line;I)V"⟩, 7), (⟨"RedrawnLines", "offeredLines", "(I)I"⟩, 19), (⟨"RedrawnLines", "tallyOf", "(II)LRedrawnLines$Tally;"⟩, 19), (⟨"RedrawnLines", "emptyMinutes", "(LRedrawnLines$Line;LRedrawnLines$Depot;)I"⟩, 19)]
theorem lw_r1 : ∀ q ∈ lw_privs_1, lw_okq q := List.forall_mem_cons.mpr ⟨lw_p0, List.forall_mem_cons.mpr ⟨lw_p1, List.forall_mem_cons.mpr ⟨lw_p2, List.forall_mem_cons.mpr ⟨lw_p3, List.forall_mem_cons.mpr ⟨lw_p4, List.forall_mem_cons.mpr ⟨lw_p5, List.forall_mem_cons.mpr ⟨lw_p6, List.forall_mem_cons.mpr ⟨lw_p7, List.forall_mem_cons.mpr ⟨lw_p8, List.forall_mem_cons.mpr ⟨lw_p9, List.forall_mem_cons.mpr ⟨lw_p10, List.forall_mem_cons.mpr ⟨lw_p11, List.forall_mem_cons.mpr ⟨lw_p12, List.forall_mem_cons.mpr ⟨lw_p13, List.forall_mem_cons.mpr ⟨lw_p14, List.forall_mem_cons.mpr ⟨lw_p15, fun _ h => absurd h List.not_mem_nil⟩⟩⟩⟩⟩⟩⟩⟩⟩⟩⟩⟩⟩⟩⟩⟩
theorem lw_p16 : lw_okq (⟨"RedrawnLines$Sharing", "leastFrom", "(II)I"⟩, 11) := ⟨⟨by decide +kernel, by decide +kernel⟩, List.mem_of_getElem? (i := 100) (by decide +kernel), List.mem_of_getElem? (i := 748) (by decide +kernel), List.mem_of_getElem? (i := 749) (by decide +kernel)⟩
theorem lw_p17 : lw_okq (⟨"RedrawnLines$Sharing", "leastWith", "(III)I"⟩, 11) := ⟨⟨by decide +kernel, by decide +kernel⟩, List.mem_of_getElem? (i := 100) (by decide +kernel), List.mem_of_getElem? (i := 753) (by decide +kernel), List.mem_of_getElem? (i := 754) (by decide +kernel)⟩
theorem lw_p18 : lw_okq (⟨"RedrawnLines$Sharing", "chooseFirst", "()V"⟩, 11) := ⟨⟨by decide +kernel, by decide +kernel⟩, List.mem_of_getElem? (i := 100) (by decide +kernel), List.mem_of_getElem? (i := 757) (by decide +kernel), List.mem_of_getElem? (i := 758) (by decide +kernel)⟩
theorem lw_p19 : lw_okq (⟨"RedrawnLines$Sharing", "firstBest", "(II)I"⟩, 11) := ⟨⟨by decide +kernel, by decide +kernel⟩, List.mem_of_getElem? (i := 100) (by decide +kernel), List.mem_of_getElem? (i := 762) (by decide +kernel), List.mem_of_getElem? (i := 763) (by decide +kernel)⟩
theorem lw_p20 : lw_okq (⟨"RedrawnLines$NightRound", "goOn", "(IIII)V"⟩, 8) := ⟨⟨by decide +kernel, by decide +kernel⟩, List.mem_of_getElem? (i := 142) (by decide +kernel), List.mem_of_getElem? (i := 808) (by decide +kernel), List.mem_of_getElem? (i := 809) (by decide +kernel)⟩
theorem lw_p21 : lw_okq (⟨"RedrawnLines", "toldByNight", "(LRedrawnLines$Line;)I"⟩, 19) := ⟨⟨by decide +kernel, by decide +kernel⟩, List.mem_of_getElem? (i := 18) (by decide +kernel), List.mem_of_getElem? (i := 872) (by decide +kernel), List.mem_of_getElem? (i := 873) (by decide +kernel)⟩
theorem lw_p22 : lw_okq (⟨"RedrawnLines", "leave", "(I)V"⟩, 19) := ⟨⟨by decide +kernel, by decide +kernel⟩, List.mem_of_getElem? (i := 18) (by decide +kernel), List.mem_of_getElem? (i := 876) (by decide +kernel), List.mem_of_getElem? (i := 877) (by decide +kernel)⟩
theorem lw_p23 : lw_okq (⟨"RedrawnLines", "toldBySchool", "(LRedrawnLines$Line;)I"⟩, 19) := ⟨⟨by decide +kernel, by decide +kernel⟩, List.mem_of_getElem? (i := 18) (by decide +kernel), List.mem_of_getElem? (i := 880) (by decide +kernel), List.mem_of_getElem? (i := 881) (by decide +kernel)⟩
theorem lw_p24 : lw_okq (⟨"RedrawnLines", "toldByLine", "(LRedrawnLines$Line;)I"⟩, 19) := ⟨⟨by decide +kernel, by decide +kernel⟩, List.mem_of_getElem? (i := 18) (by decide +kernel), List.mem_of_getElem? (i := 884) (by decide +kernel), List.mem_of_getElem? (i := 885) (by decide +kernel)⟩
theorem lw_p25 : lw_okq (⟨"RedrawnLinesModel", "noStop", "(I)Z"⟩, 57) := ⟨⟨by decide +kernel, by decide +kernel⟩, List.mem_of_getElem? (i := 908) (by decide +kernel), List.mem_of_getElem? (i := 1098) (by decide +kernel), List.mem_of_getElem? (i := 1099) (by decide +kernel)⟩
theorem lw_p26 : lw_okq (⟨"RedrawnLinesModel", "farOf", "(II)I"⟩, 57) := ⟨⟨by decide +kernel, by decide +kernel⟩, List.mem_of_getElem? (i := 908) (by decide +kernel), List.mem_of_getElem? (i := 1102) (by decide +kernel), List.mem_of_getElem? (i := 1103) (by decide +kernel)⟩
theorem lw_p27 : lw_okq (⟨"RedrawnLinesModel", "refused", "(I)I"⟩, 57) := ⟨⟨by decide +kernel, by decide +kernel⟩, List.mem_of_getElem? (i := 908) (by decide +kernel), List.mem_of_getElem? (i := 1117) (by decide +kernel), List.mem_of_getElem? (i := 1118) (by decide +kernel)⟩
theorem lw_p28 : lw_okq (⟨"RedrawnLinesModel", "barred", "(IIIJ)I"⟩, 57) := ⟨⟨by decide +kernel, by decide +kernel⟩, List.mem_of_getElem? (i := 908) (by decide +kernel), List.mem_of_getElem? (i := 1124) (by decide +kernel), List.mem_of_getElem? (i := 1125) (by decide +kernel)⟩
theorem lw_p29 : lw_okq (⟨"RedrawnLinesModel", "failed", "(I)I"⟩, 57) := ⟨⟨by decide +kernel, by decide +kernel⟩, List.mem_of_getElem? (i := 908) (by decide +kernel), List.mem_of_getElem? (i := 1128) (by decide +kernel), List.mem_of_getElem? (i := 1129) (by decide +kernel)⟩
theorem lw_p30 : lw_okq (⟨"RedrawnLinesModel", "areUnlike", "(II)Z"⟩, 57) := ⟨⟨by decide +kernel, by decide +kernel⟩, List.mem_of_getElem? (i := 908) (by decide +kernel), List.mem_of_getElem? (i := 1137) (by decide +kernel), List.mem_of_getElem? (i := 1138) (by decide +kernel)⟩
theorem lw_p31 : lw_okq (⟨"RedrawnLinesModel", "noLine", "(I)Z"⟩, 57) := ⟨⟨by decide +kernel, by decide +kernel⟩, List.mem_of_getElem? (i := 908) (by decide +kernel), List.mem_of_getElem? (i := 1148) (by decide +kernel), List.mem_of_getElem? (i := 1149) (by decide +kernel)⟩
def lw_privs_2 : List (MethodName × Nat) := [(⟨"RedrawnLines$Sharing", "leastFrom", "(II)I"⟩, 11), (⟨"RedrawnLines$Sharing", "leastWith", "(III)I"⟩, 11), (⟨"RedrawnLines$Sharing", "chooseFirst", "()V"⟩, 11), (⟨"RedrawnLines$Sharing", "firstBest", "(II)I"⟩, 11), (⟨"RedrawnLines$NightRound", "goOn", "(IIII)V"⟩, 8), (⟨"RedrawnLines", "toldByNight", "(LRedrawnLines$Line;)I"⟩, 19), (⟨"RedrawnLines", "leave", "(I)V"⟩, 19), (⟨"RedrawnLines", "toldBySchool", "(LRedrawnLines$Line;)I"⟩, 19), (⟨"RedrawnLines", "toldByLine", "(LRedrawnLines$Line;)I"⟩, 19), (⟨"RedrawnLinesModel", "noStop", "(I)Z"⟩, 57), (⟨"RedrawnLinesModel", "farOf", "(II)I"⟩, 57), (⟨"RedrawnLinesModel", "refused", "(I)I"⟩, 57), (⟨"RedrawnLinesModel", "barred", "(IIIJ)I"⟩, 57), (⟨"RedrawnLinesModel", "failed", "(I)I"⟩, 57), (⟨"RedrawnLinesModel", "areUnlike", "(II)Z"⟩, 57), (⟨"RedrawnLinesModel", "noLine", "(I)Z"⟩, 57)]
theorem lw_r2 : ∀ q ∈ lw_privs_2, lw_okq q := List.forall_mem_cons.mpr ⟨lw_p16, List.forall_mem_cons.mpr ⟨lw_p17, List.forall_mem_cons.mpr ⟨lw_p18, List.forall_mem_cons.mpr ⟨lw_p19, List.forall_mem_cons.mpr ⟨lw_p20, List.forall_mem_cons.mpr ⟨lw_p21, List.forall_mem_cons.mpr ⟨lw_p22, List.forall_mem_cons.mpr ⟨lw_p23, List.forall_mem_cons.mpr ⟨lw_p24, List.forall_mem_cons.mpr ⟨lw_p25, List.forall_mem_cons.mpr ⟨lw_p26, List.forall_mem_cons.mpr ⟨lw_p27, List.forall_mem_cons.mpr ⟨lw_p28, List.forall_mem_cons.mpr ⟨lw_p29, List.forall_mem_cons.mpr ⟨lw_p30, List.forall_mem_cons.mpr ⟨lw_p31, fun _ h => absurd h List.not_mem_nil⟩⟩⟩⟩⟩⟩⟩⟩⟩⟩⟩⟩⟩⟩⟩⟩
theorem lw_p32 : lw_okq (⟨"RedrawnLinesModel", "roundOf", "(I)I"⟩, 57) := ⟨⟨by decide +kernel, by decide +kernel⟩, List.mem_of_getElem? (i := 908) (by decide +kernel), List.mem_of_getElem? (i := 1160) (by decide +kernel), List.mem_of_getElem? (i := 1161) (by decide +kernel)⟩
theorem lw_p33 : lw_okq (⟨"RedrawnLinesModel", "buses", "(I)I"⟩, 57) := ⟨⟨by decide +kernel, by decide +kernel⟩, List.mem_of_getElem? (i := 908) (by decide +kernel), List.mem_of_getElem? (i := 1164) (by decide +kernel), List.mem_of_getElem? (i := 1165) (by decide +kernel)⟩
theorem lw_p34 : lw_okq (⟨"RedrawnLinesModel", "doesRun", "(II)Z"⟩, 57) := ⟨⟨by decide +kernel, by decide +kernel⟩, List.mem_of_getElem? (i := 908) (by decide +kernel), List.mem_of_getElem? (i := 1174) (by decide +kernel), List.mem_of_getElem? (i := 1175) (by decide +kernel)⟩
theorem lw_p35 : lw_okq (⟨"RedrawnLinesModel", "minuteAt", "(III)I"⟩, 57) := ⟨⟨by decide +kernel, by decide +kernel⟩, List.mem_of_getElem? (i := 908) (by decide +kernel), List.mem_of_getElem? (i := 1183) (by decide +kernel), List.mem_of_getElem? (i := 1184) (by decide +kernel)⟩
theorem lw_p36 : lw_okq (⟨"RedrawnLinesModel", "readText", "(II)I"⟩, 57) := ⟨⟨by decide +kernel, by decide +kernel⟩, List.mem_of_getElem? (i := 908) (by decide +kernel), List.mem_of_getElem? (i := 1192) (by decide +kernel), List.mem_of_getElem? (i := 1193) (by decide +kernel)⟩
theorem lw_p37 : lw_okq (⟨"RedrawnLinesModel", "readsNumber", "(III)Z"⟩, 57) := ⟨⟨by decide +kernel, by decide +kernel⟩, List.mem_of_getElem? (i := 908) (by decide +kernel), List.mem_of_getElem? (i := 1196) (by decide +kernel), List.mem_of_getElem? (i := 1197) (by decide +kernel)⟩
theorem lw_p38 : lw_okq (⟨"RedrawnLinesModel", "owedTo", "(II)I"⟩, 57) := ⟨⟨by decide +kernel, by decide +kernel⟩, List.mem_of_getElem? (i := 908) (by decide +kernel), List.mem_of_getElem? (i := 1206) (by decide +kernel), List.mem_of_getElem? (i := 1207) (by decide +kernel)⟩
theorem lw_p39 : lw_okq (⟨"RedrawnLinesModel", "textFor", "(II)I"⟩, 57) := ⟨⟨by decide +kernel, by decide +kernel⟩, List.mem_of_getElem? (i := 908) (by decide +kernel), List.mem_of_getElem? (i := 1210) (by decide +kernel), List.mem_of_getElem? (i := 1211) (by decide +kernel)⟩
theorem lw_p40 : lw_okq (⟨"RedrawnLinesModel", "servedAt", "(II)I"⟩, 57) := ⟨⟨by decide +kernel, by decide +kernel⟩, List.mem_of_getElem? (i := 908) (by decide +kernel), List.mem_of_getElem? (i := 1222) (by decide +kernel), List.mem_of_getElem? (i := 1223) (by decide +kernel)⟩
theorem lw_p41 : lw_okq (⟨"RedrawnLinesModel", "noTrip", "(I)Z"⟩, 57) := ⟨⟨by decide +kernel, by decide +kernel⟩, List.mem_of_getElem? (i := 908) (by decide +kernel), List.mem_of_getElem? (i := 1238) (by decide +kernel), List.mem_of_getElem? (i := 1239) (by decide +kernel)⟩
theorem lw_p42 : lw_okq (⟨"RedrawnLinesModel", "runningOn", "(I)I"⟩, 57) := ⟨⟨by decide +kernel, by decide +kernel⟩, List.mem_of_getElem? (i := 908) (by decide +kernel), List.mem_of_getElem? (i := 1242) (by decide +kernel), List.mem_of_getElem? (i := 1243) (by decide +kernel)⟩
theorem lw_p43 : lw_okq (⟨"RedrawnLinesModel", "layWay", "(I)V"⟩, 57) := ⟨⟨by decide +kernel, by decide +kernel⟩, List.mem_of_getElem? (i := 908) (by decide +kernel), List.mem_of_getElem? (i := 1246) (by decide +kernel), List.mem_of_getElem? (i := 1247) (by decide +kernel)⟩
theorem lw_p44 : lw_okq (⟨"RedrawnLinesModel", "walkFrom", "(II)V"⟩, 57) := ⟨⟨by decide +kernel, by decide +kernel⟩, List.mem_of_getElem? (i := 908) (by decide +kernel), List.mem_of_getElem? (i := 1250) (by decide +kernel), List.mem_of_getElem? (i := 1251) (by decide +kernel)⟩
theorem lw_p45 : lw_okq (⟨"RedrawnLinesModel", "rideFrom", "(II)V"⟩, 57) := ⟨⟨by decide +kernel, by decide +kernel⟩, List.mem_of_getElem? (i := 908) (by decide +kernel), List.mem_of_getElem? (i := 1260) (by decide +kernel), List.mem_of_getElem? (i := 1261) (by decide +kernel)⟩
theorem lw_p46 : lw_okq (⟨"RedrawnLinesModel", "worse", "(III)I"⟩, 57) := ⟨⟨by decide +kernel, by decide +kernel⟩, List.mem_of_getElem? (i := 908) (by decide +kernel), List.mem_of_getElem? (i := 1271) (by decide +kernel), List.mem_of_getElem? (i := 1272) (by decide +kernel)⟩
theorem lw_p47 : lw_okq (⟨"RedrawnLinesModel", "busMinutes", "(II)I"⟩, 57) := ⟨⟨by decide +kernel, by decide +kernel⟩, List.mem_of_getElem? (i := 908) (by decide +kernel), List.mem_of_getElem? (i := 1289) (by decide +kernel), List.mem_of_getElem? (i := 1290) (by decide +kernel)⟩
def lw_privs_3 : List (MethodName × Nat) := [(⟨"RedrawnLinesModel", "roundOf", "(I)I"⟩, 57), (⟨"RedrawnLinesModel", "buses", "(I)I"⟩, 57), (⟨"RedrawnLinesModel", "doesRun", "(II)Z"⟩, 57), (⟨"RedrawnLinesModel", "minuteAt", "(III)I"⟩, 57), (⟨"RedrawnLinesModel", "readText", "(II)I"⟩, 57), (⟨"RedrawnLinesModel", "readsNumber", "(III)Z"⟩, 57), (⟨"RedrawnLinesModel", "owedTo", "(II)I"⟩, 57), (⟨"RedrawnLinesModel", "textFor", "(II)I"⟩, 57), (⟨"RedrawnLinesModel", "servedAt", "(II)I"⟩, 57), (⟨"RedrawnLinesModel", "noTrip", "(I)Z"⟩, 57), (⟨"RedrawnLinesModel", "runningOn", "(I)I"⟩, 57), (⟨"RedrawnLinesModel", "layWay", "(I)V"⟩, 57), (⟨"RedrawnLinesModel", "walkFrom", "(II)V"⟩, 57), (⟨"RedrawnLinesModel", "rideFrom", "(II)V"⟩, 57), (⟨"RedrawnLinesModel", "worse", "(III)I"⟩, 57), (⟨"RedrawnLinesModel", "busMinutes", "(II)I"⟩, 57)]
theorem lw_r3 : ∀ q ∈ lw_privs_3, lw_okq q := List.forall_mem_cons.mpr ⟨lw_p32, List.forall_mem_cons.mpr ⟨lw_p33, List.forall_mem_cons.mpr ⟨lw_p34, List.forall_mem_cons.mpr ⟨lw_p35, List.forall_mem_cons.mpr ⟨lw_p36, List.forall_mem_cons.mpr ⟨lw_p37, List.forall_mem_cons.mpr ⟨lw_p38, List.forall_mem_cons.mpr ⟨lw_p39, List.forall_mem_cons.mpr ⟨lw_p40, List.forall_mem_cons.mpr ⟨lw_p41, List.forall_mem_cons.mpr ⟨lw_p42, List.forall_mem_cons.mpr ⟨lw_p43, List.forall_mem_cons.mpr ⟨lw_p44, List.forall_mem_cons.mpr ⟨lw_p45, List.forall_mem_cons.mpr ⟨lw_p46, List.forall_mem_cons.mpr ⟨lw_p47, fun _ h => absurd h List.not_mem_nil⟩⟩⟩⟩⟩⟩⟩⟩⟩⟩⟩⟩⟩⟩⟩⟩
theorem lw_p48 : lw_okq (⟨"RedrawnLinesModel", "rideNet", "(II)V"⟩, 57) := ⟨⟨by decide +kernel, by decide +kernel⟩, List.mem_of_getElem? (i := 908) (by decide +kernel), List.mem_of_getElem? (i := 1293) (by decide +kernel), List.mem_of_getElem? (i := 1294) (by decide +kernel)⟩
theorem lw_p49 : lw_okq (⟨"RedrawnLinesModel", "emptyOf", "(II)I"⟩, 57) := ⟨⟨by decide +kernel, by decide +kernel⟩, List.mem_of_getElem? (i := 908) (by decide +kernel), List.mem_of_getElem? (i := 1305) (by decide +kernel), List.mem_of_getElem? (i := 1306) (by decide +kernel)⟩
theorem lw_p50 : lw_okq (⟨"RedrawnLinesModel", "toDepot", "(II)I"⟩, 57) := ⟨⟨by decide +kernel, by decide +kernel⟩, List.mem_of_getElem? (i := 908) (by decide +kernel), List.mem_of_getElem? (i := 1309) (by decide +kernel), List.mem_of_getElem? (i := 1310) (by decide +kernel)⟩
theorem lw_p51 : lw_okq (⟨"RedrawnLinesModel", "layRuns", "(I)V"⟩, 57) := ⟨⟨by decide +kernel, by decide +kernel⟩, List.mem_of_getElem? (i := 908) (by decide +kernel), List.mem_of_getElem? (i := 1318) (by decide +kernel), List.mem_of_getElem? (i := 1319) (by decide +kernel)⟩
theorem lw_p52 : lw_okq (⟨"RedrawnLinesModel", "findRow", "(ZI)V"⟩, 57) := ⟨⟨by decide +kernel, by decide +kernel⟩, List.mem_of_getElem? (i := 908) (by decide +kernel), List.mem_of_getElem? (i := 1322) (by decide +kernel), List.mem_of_getElem? (i := 1323) (by decide +kernel)⟩
theorem lw_p53 : lw_okq (⟨"RedrawnLinesModel", "layRow", "(II)V"⟩, 57) := ⟨⟨by decide +kernel, by decide +kernel⟩, List.mem_of_getElem? (i := 908) (by decide +kernel), List.mem_of_getElem? (i := 1329) (by decide +kernel), List.mem_of_getElem? (i := 1330) (by decide +kernel)⟩
theorem lw_p54 : lw_okq (⟨"RedrawnLinesModel", "areAllUnlike", "()Z"⟩, 57) := ⟨⟨by decide +kernel, by decide +kernel⟩, List.mem_of_getElem? (i := 908) (by decide +kernel), List.mem_of_getElem? (i := 1333) (by decide +kernel), List.mem_of_getElem? (i := 1334) (by decide +kernel)⟩
theorem lw_p55 : lw_okq (⟨"RedrawnLinesModel", "doFit", "()Z"⟩, 57) := ⟨⟨by decide +kernel, by decide +kernel⟩, List.mem_of_getElem? (i := 908) (by decide +kernel), List.mem_of_getElem? (i := 1337) (by decide +kernel), List.mem_of_getElem? (i := 1338) (by decide +kernel)⟩
theorem lw_p56 : lw_okq (⟨"RedrawnLinesModel", "taught", "(II)I"⟩, 57) := ⟨⟨by decide +kernel, by decide +kernel⟩, List.mem_of_getElem? (i := 908) (by decide +kernel), List.mem_of_getElem? (i := 1341) (by decide +kernel), List.mem_of_getElem? (i := 1342) (by decide +kernel)⟩
theorem lw_p57 : lw_okq (⟨"RedrawnLinesModel", "rowTold", "(II)I"⟩, 57) := ⟨⟨by decide +kernel, by decide +kernel⟩, List.mem_of_getElem? (i := 908) (by decide +kernel), List.mem_of_getElem? (i := 1345) (by decide +kernel), List.mem_of_getElem? (i := 1346) (by decide +kernel)⟩
theorem lw_p58 : lw_okq (⟨"RedrawnLinesModel", "boardMany", "()I"⟩, 57) := ⟨⟨by decide +kernel, by decide +kernel⟩, List.mem_of_getElem? (i := 908) (by decide +kernel), List.mem_of_getElem? (i := 1365) (by decide +kernel), List.mem_of_getElem? (i := 1366) (by decide +kernel)⟩
theorem lw_p59 : lw_okq (⟨"RedrawnLinesModel", "layBoards", "(I)V"⟩, 57) := ⟨⟨by decide +kernel, by decide +kernel⟩, List.mem_of_getElem? (i := 908) (by decide +kernel), List.mem_of_getElem? (i := 1374) (by decide +kernel), List.mem_of_getElem? (i := 1375) (by decide +kernel)⟩
theorem lw_p60 : lw_okq (⟨"RedrawnLinesModel", "doneBy", "(III)I"⟩, 57) := ⟨⟨by decide +kernel, by decide +kernel⟩, List.mem_of_getElem? (i := 908) (by decide +kernel), List.mem_of_getElem? (i := 1378) (by decide +kernel), List.mem_of_getElem? (i := 1379) (by decide +kernel)⟩
theorem lw_p61 : lw_okq (⟨"RedrawnLinesModel", "noQueue", "(II)Z"⟩, 57) := ⟨⟨by decide +kernel, by decide +kernel⟩, List.mem_of_getElem? (i := 908) (by decide +kernel), List.mem_of_getElem? (i := 1386) (by decide +kernel), List.mem_of_getElem? (i := 1387) (by decide +kernel)⟩
theorem lw_p62 : lw_okq (⟨"RedrawnLinesModel", "noCell", "(II)I"⟩, 57) := ⟨⟨by decide +kernel, by decide +kernel⟩, List.mem_of_getElem? (i := 908) (by decide +kernel), List.mem_of_getElem? (i := 1416) (by decide +kernel), List.mem_of_getElem? (i := 1417) (by decide +kernel)⟩
theorem lw_p63 : lw_okq (⟨"RedrawnLinesModel", "failedLong", "(I)J"⟩, 57) := ⟨⟨by decide +kernel, by decide +kernel⟩, List.mem_of_getElem? (i := 908) (by decide +kernel), List.mem_of_getElem? (i := 1428) (by decide +kernel), List.mem_of_getElem? (i := 1429) (by decide +kernel)⟩
def lw_privs_4 : List (MethodName × Nat) := [(⟨"RedrawnLinesModel", "rideNet", "(II)V"⟩, 57), (⟨"RedrawnLinesModel", "emptyOf", "(II)I"⟩, 57), (⟨"RedrawnLinesModel", "toDepot", "(II)I"⟩, 57), (⟨"RedrawnLinesModel", "layRuns", "(I)V"⟩, 57), (⟨"RedrawnLinesModel", "findRow", "(ZI)V"⟩, 57), (⟨"RedrawnLinesModel", "layRow", "(II)V"⟩, 57), (⟨"RedrawnLinesModel", "areAllUnlike", "()Z"⟩, 57), (⟨"RedrawnLinesModel", "doFit", "()Z"⟩, 57), (⟨"RedrawnLinesModel", "taught", "(II)I"⟩, 57), (⟨"RedrawnLinesModel", "rowTold", "(II)I"⟩, 57), (⟨"RedrawnLinesModel", "boardMany", "()I"⟩, 57), (⟨"RedrawnLinesModel", "layBoards", "(I)V"⟩, 57), (⟨"RedrawnLinesModel", "doneBy", "(III)I"⟩, 57), (⟨"RedrawnLinesModel", "noQueue", "(II)Z"⟩, 57), (⟨"RedrawnLinesModel", "noCell", "(II)I"⟩, 57), (⟨"RedrawnLinesModel", "failedLong", "(I)J"⟩, 57)]
theorem lw_r4 : ∀ q ∈ lw_privs_4, lw_okq q := List.forall_mem_cons.mpr ⟨lw_p48, List.forall_mem_cons.mpr ⟨lw_p49, List.forall_mem_cons.mpr ⟨lw_p50, List.forall_mem_cons.mpr ⟨lw_p51, List.forall_mem_cons.mpr ⟨lw_p52, List.forall_mem_cons.mpr ⟨lw_p53, List.forall_mem_cons.mpr ⟨lw_p54, List.forall_mem_cons.mpr ⟨lw_p55, List.forall_mem_cons.mpr ⟨lw_p56, List.forall_mem_cons.mpr ⟨lw_p57, List.forall_mem_cons.mpr ⟨lw_p58, List.forall_mem_cons.mpr ⟨lw_p59, List.forall_mem_cons.mpr ⟨lw_p60, List.forall_mem_cons.mpr ⟨lw_p61, List.forall_mem_cons.mpr ⟨lw_p62, List.forall_mem_cons.mpr ⟨lw_p63, fun _ h => absurd h List.not_mem_nil⟩⟩⟩⟩⟩⟩⟩⟩⟩⟩⟩⟩⟩⟩⟩⟩
theorem lw_p64 : lw_okq (⟨"RedrawnLinesModel", "traced", "(I)V"⟩, 57) := ⟨⟨by decide +kernel, by decide +kernel⟩, List.mem_of_getElem? (i := 908) (by decide +kernel), List.mem_of_getElem? (i := 1440) (by decide +kernel), List.mem_of_getElem? (i := 1441) (by decide +kernel)⟩
def lw_privs_5 : List (MethodName × Nat) := [(⟨"RedrawnLinesModel", "traced", "(I)V"⟩, 57)]
theorem lw_r5 : ∀ q ∈ lw_privs_5, lw_okq q := List.forall_mem_cons.mpr ⟨lw_p64, fun _ h => absurd h List.not_mem_nil⟩
def lw_privs : List (MethodName × Nat) := lw_privs_1 ++ (lw_privs_2 ++ (lw_privs_3 ++ (lw_privs_4 ++ (lw_privs_5))))
def lw_tbl : List Cond := k2_sels lw_privs ++ tables_1
theorem lw_privs_ok : ∀ q ∈ lw_privs, lw_okq q := by
  show ∀ q ∈ lw_privs_1 ++ (lw_privs_2 ++ (lw_privs_3 ++ (lw_privs_4 ++ (lw_privs_5)))), lw_okq q
  exact List.forall_mem_append.mpr ⟨lw_r1, List.forall_mem_append.mpr ⟨lw_r2, List.forall_mem_append.mpr ⟨lw_r3, List.forall_mem_append.mpr ⟨lw_r4, lw_r5⟩⟩⟩⟩
def RX0 : String := "RedrawnLines$Depot"
def TX0 : u_T := fun k => match k with
  | 0 => ("RedrawnLines$Depot", "x", "I", true)
  | 1 => ("RedrawnLines$Depot", "y", "I", true)
  | _ => ("RedrawnLines$Depot", "room", "I", true)
def tyX0 : Nat → FieldType := fun k => match k with
  | 0 => .int
  | 1 => .int
  | _ => .int
abbrev wsX00 : List Cond := u_ws RX0 TX0 3
theorem nmX0 : ∀ a, a < 3 → ∀ b, b < 3 → a ≠ b → (TX0 a).2.1 ≠ (TX0 b).2.1 := by decide +kernel
theorem tyX0_ok : ∀ k, k < 3 → parseFieldDescriptor (TX0 k).2.2.1 = some (tyX0 k) := by decide +kernel
abbrev cX0_init : ByteArray := prog_2_method_1_code
def yX0_init : MethodName := ⟨RX0, "<init>", "(III)V"⟩
def RX1 : String := "RedrawnLines$Line"
def TX1 : u_T := fun k => match k with
  | 0 => ("RedrawnLines$Line", "number", "I", true)
  | 1 => ("RedrawnLines$Line", "kind", "I", true)
  | 2 => ("RedrawnLines$Line", "first", "I", true)
  | 3 => ("RedrawnLines$Line", "every", "I", true)
  | 4 => ("RedrawnLines$Line", "last", "I", true)
  | 5 => ("RedrawnLines$Line", "size", "I", true)
  | 6 => ("RedrawnLines$Line", "stops", "[I", true)
  | 7 => ("RedrawnLines$Line", "after", "[I", true)
  | 8 => ("RedrawnLines$Line", "queue", "[I", true)
  | 9 => ("RedrawnLines$Line", "from", "I", false)
  | _ => ("RedrawnLines$Line", "to", "I", false)
def tyX1 : Nat → FieldType := fun k => match k with
  | 0 => .int
  | 1 => .int
  | 2 => .int
  | 3 => .int
  | 4 => .int
  | 5 => .int
  | 6 => .array .int
  | 7 => .array .int
  | 8 => .array .int
  | 9 => .int
  | _ => .int
abbrev wsX10 : List Cond := u_ws RX1 TX1 11
theorem nmX1 : ∀ a, a < 11 → ∀ b, b < 11 → a ≠ b → (TX1 a).2.1 ≠ (TX1 b).2.1 := by decide +kernel
theorem tyX1_ok : ∀ k, k < 11 → parseFieldDescriptor (TX1 k).2.2.1 = some (tyX1 k) := by decide +kernel
abbrev cX1_init : ByteArray := prog_3_method_1_code
def yX1_init : MethodName := ⟨RX1, "<init>", "(IIIII[I)V"⟩
abbrev cX1_legOf : ByteArray := prog_3_method_2_code
def yX1_legOf : MethodName := ⟨RX1, "legOf", "(II)I"⟩
abbrev cX1_hasPlace : ByteArray := prog_3_method_3_code
def yX1_hasPlace : MethodName := ⟨RX1, "hasPlace", "(I)Z"⟩
abbrev cX1_leavesFrom : ByteArray := prog_3_method_4_code
def yX1_leavesFrom : MethodName := ⟨RX1, "leavesFrom", "(I)Z"⟩
abbrev cX1_goesOn : ByteArray := prog_3_method_5_code
def yX1_goesOn : MethodName := ⟨RX1, "goesOn", "(I)Z"⟩
abbrev cX1_buses : ByteArray := prog_3_method_6_code
def yX1_buses : MethodName := ⟨RX1, "buses", "()I"⟩
abbrev cX1_roundMinutes : ByteArray := prog_3_method_7_code
def yX1_roundMinutes : MethodName := ⟨RX1, "roundMinutes", "()I"⟩
abbrev cX1_startOfBus : ByteArray := prog_3_method_8_code
def yX1_startOfBus : MethodName := ⟨RX1, "startOfBus", "(II)I"⟩
abbrev cX1_lastBusAt : ByteArray := prog_3_method_9_code
def yX1_lastBusAt : MethodName := ⟨RX1, "lastBusAt", "(I)I"⟩
abbrev cX1_placeOf : ByteArray := prog_3_method_10_code
def yX1_placeOf : MethodName := ⟨RX1, "placeOf", "(I)I"⟩
abbrev cX1_leftBehind : ByteArray := prog_3_method_11_code
def yX1_leftBehind : MethodName := ⟨RX1, "leftBehind", "(II)I"⟩
def RX2 : String := "RedrawnLines$Network"
def TX2 : u_T := fun k => match k with
  | 0 => ("RedrawnLines$Network", "x", "[I", true)
  | 1 => ("RedrawnLines$Network", "y", "[I", true)
  | 2 => ("RedrawnLines$Network", "walks", "[I", true)
  | 3 => ("RedrawnLines$Network", "stopCount", "I", false)
  | 4 => ("RedrawnLines$Network", "lines", "[LRedrawnLines$Line;", true)
  | _ => ("RedrawnLines$Network", "lineCount", "I", false)
def tyX2 : Nat → FieldType := fun k => match k with
  | 0 => .array .int
  | 1 => .array .int
  | 2 => .array .int
  | 3 => .int
  | 4 => .array (.object "RedrawnLines$Line")
  | _ => .int
abbrev wsX20 : List Cond := u_ws RX2 TX2 6
theorem nmX2 : ∀ a, a < 6 → ∀ b, b < 6 → a ≠ b → (TX2 a).2.1 ≠ (TX2 b).2.1 := by decide +kernel
theorem tyX2_ok : ∀ k, k < 6 → parseFieldDescriptor (TX2 k).2.2.1 = some (tyX2 k) := by decide +kernel
abbrev cX2_init : ByteArray := prog_4_method_1_code
def yX2_init : MethodName := ⟨RX2, "<init>", "()V"⟩
abbrev cX2_addStop : ByteArray := prog_4_method_2_code
def yX2_addStop : MethodName := ⟨RX2, "addStop", "(II)I"⟩
abbrev cX2_hasStop : ByteArray := prog_4_method_3_code
def yX2_hasStop : MethodName := ⟨RX2, "hasStop", "(I)Z"⟩
abbrev cX2_addLine : ByteArray := prog_4_method_4_code
def yX2_addLine : MethodName := ⟨RX2, "addLine", "(LRedrawnLines$Line;)I"⟩
abbrev cX2_lineAt : ByteArray := prog_4_method_5_code
def yX2_lineAt : MethodName := ⟨RX2, "lineAt", "(I)LRedrawnLines$Line;"⟩
abbrev cX2_walk : ByteArray := prog_4_method_6_code
def yX2_walk : MethodName := ⟨RX2, "walk", "(II)I"⟩
abbrev cX2_walkFrom : ByteArray := prog_4_method_7_code
def yX2_walkFrom : MethodName := ⟨RX2, "walkFrom", "(III)I"⟩
abbrev cX2_refusalOf : ByteArray := prog_4_method_8_code
def yX2_refusalOf : MethodName := ⟨RX2, "refusalOf", "([I)I"⟩
abbrev cX2_running : ByteArray := prog_4_method_9_code
def yX2_running : MethodName := ⟨RX2, "running", "(I)I"⟩
abbrev cX2_busesLeaving : ByteArray := prog_4_method_10_code
def yX2_busesLeaving : MethodName := ⟨RX2, "busesLeaving", "(II)I"⟩
abbrev cX2_busMinutes : ByteArray := prog_4_method_11_code
def yX2_busMinutes : MethodName := ⟨RX2, "busMinutes", "(I)I"⟩
abbrev cX2_lastBus : ByteArray := prog_4_method_12_code
def yX2_lastBus : MethodName := ⟨RX2, "lastBus", "(II)I"⟩
abbrev cX2_firstBus : ByteArray := prog_4_method_13_code
def yX2_firstBus : MethodName := ⟨RX2, "firstBus", "(II)I"⟩
def RX3 : String := "RedrawnLines$NightRound"
def TX3 : u_T := fun k => match k with
  | 0 => ("RedrawnLines$NightRound", "net", "LRedrawnLines$Network;", true)
  | 1 => ("RedrawnLines$NightRound", "stops", "[I", true)
  | 2 => ("RedrawnLines$NightRound", "opens", "[I", true)
  | 3 => ("RedrawnLines$NightRound", "closes", "[I", true)
  | 4 => ("RedrawnLines$NightRound", "row", "[I", true)
  | 5 => ("RedrawnLines$NightRound", "count", "I", false)
  | 6 => ("RedrawnLines$NightRound", "order", "[I", true)
  | _ => ("RedrawnLines$NightRound", "allDone", "I", false)
def tyX3 : Nat → FieldType := fun k => match k with
  | 0 => .object "RedrawnLines$Network"
  | 1 => .array .int
  | 2 => .array .int
  | 3 => .array .int
  | 4 => .array .int
  | 5 => .int
  | 6 => .array .int
  | _ => .int
abbrev wsX30 : List Cond := u_ws RX3 TX3 8
theorem nmX3 : ∀ a, a < 8 → ∀ b, b < 8 → a ≠ b → (TX3 a).2.1 ≠ (TX3 b).2.1 := by decide +kernel
theorem tyX3_ok : ∀ k, k < 8 → parseFieldDescriptor (TX3 k).2.2.1 = some (tyX3 k) := by decide +kernel
abbrev cX3_init : ByteArray := prog_5_method_1_code
def yX3_init : MethodName := ⟨RX3, "<init>", "(LRedrawnLines$Network;)V"⟩
abbrev cX3_plan : ByteArray := prog_5_method_2_code
def yX3_plan : MethodName := ⟨RX3, "plan", "(IIII)V"⟩
abbrev cX3_goOn : ByteArray := prog_5_method_3_code
def yX3_goOn : MethodName := ⟨RX3, "goOn", "(IIII)V"⟩
def RX4 : String := "RedrawnLines$Sharing"
def TX4 : u_T := fun k => match k with
  | 0 => ("RedrawnLines$Sharing", "lines", "[I", true)
  | 1 => ("RedrawnLines$Sharing", "count", "I", false)
  | 2 => ("RedrawnLines$Sharing", "tooMany", "Z", false)
  | 3 => ("RedrawnLines$Sharing", "placeCount", "I", false)
  | 4 => ("RedrawnLines$Sharing", "states", "I", false)
  | 5 => ("RedrawnLines$Sharing", "room", "[I", true)
  | 6 => ("RedrawnLines$Sharing", "step", "[I", true)
  | 7 => ("RedrawnLines$Sharing", "used", "[I", true)
  | 8 => ("RedrawnLines$Sharing", "cost", "[I", true)
  | 9 => ("RedrawnLines$Sharing", "rest", "[I", true)
  | _ => ("RedrawnLines$Sharing", "placeOfLine", "[I", true)
def tyX4 : Nat → FieldType := fun k => match k with
  | 0 => .array .int
  | 1 => .int
  | 2 => .boolean
  | 3 => .int
  | 4 => .int
  | 5 => .array .int
  | 6 => .array .int
  | 7 => .array .int
  | 8 => .array .int
  | 9 => .array .int
  | _ => .array .int
abbrev wsX40 : List Cond := u_ws RX4 TX4 11
theorem nmX4 : ∀ a, a < 11 → ∀ b, b < 11 → a ≠ b → (TX4 a).2.1 ≠ (TX4 b).2.1 := by decide +kernel
theorem tyX4_ok : ∀ k, k < 11 → parseFieldDescriptor (TX4 k).2.2.1 = some (tyX4 k) := by decide +kernel
abbrev cX4_init : ByteArray := prog_6_method_1_code
def yX4_init : MethodName := ⟨RX4, "<init>", "()V"⟩
abbrev cX4_begin : ByteArray := prog_6_method_2_code
def yX4_begin : MethodName := ⟨RX4, "begin", "(I)V"⟩
abbrev cX4_addPlace : ByteArray := prog_6_method_3_code
def yX4_addPlace : MethodName := ⟨RX4, "addPlace", "(I)V"⟩
abbrev cX4_setCost : ByteArray := prog_6_method_4_code
def yX4_setCost : MethodName := ⟨RX4, "setCost", "(III)V"⟩
abbrev cX4_answer : ByteArray := prog_6_method_5_code
def yX4_answer : MethodName := ⟨RX4, "answer", "(I)I"⟩
abbrev cX4_leastFrom : ByteArray := prog_6_method_6_code
def yX4_leastFrom : MethodName := ⟨RX4, "leastFrom", "(II)I"⟩
abbrev cX4_leastWith : ByteArray := prog_6_method_7_code
def yX4_leastWith : MethodName := ⟨RX4, "leastWith", "(III)I"⟩
abbrev cX4_chooseFirst : ByteArray := prog_6_method_8_code
def yX4_chooseFirst : MethodName := ⟨RX4, "chooseFirst", "()V"⟩
abbrev cX4_firstBest : ByteArray := prog_6_method_9_code
def yX4_firstBest : MethodName := ⟨RX4, "firstBest", "(II)I"⟩
def RX5 : String := "RedrawnLines$Sheet"
def TX5 : u_T := fun k => match k with
  | 0 => ("RedrawnLines$Sheet", "filled", "Z", false)
  | 1 => ("RedrawnLines$Sheet", "lane", "I", false)
  | 2 => ("RedrawnLines$Sheet", "length", "I", false)
  | _ => ("RedrawnLines$Sheet", "cells", "[I", true)
def tyX5 : Nat → FieldType := fun k => match k with
  | 0 => .boolean
  | 1 => .int
  | 2 => .int
  | _ => .array .int
abbrev wsX50 : List Cond := u_ws RX5 TX5 4
theorem nmX5 : ∀ a, a < 4 → ∀ b, b < 4 → a ≠ b → (TX5 a).2.1 ≠ (TX5 b).2.1 := by decide +kernel
theorem tyX5_ok : ∀ k, k < 4 → parseFieldDescriptor (TX5 k).2.2.1 = some (tyX5 k) := by decide +kernel
abbrev cX5_init : ByteArray := prog_7_method_1_code
def yX5_init : MethodName := ⟨RX5, "<init>", "()V"⟩
abbrev cX5_renew : ByteArray := prog_7_method_2_code
def yX5_renew : MethodName := ⟨RX5, "renew", "(II)V"⟩
abbrev cX5_holds : ByteArray := prog_7_method_3_code
def yX5_holds : MethodName := ⟨RX5, "holds", "(IJ)Z"⟩
abbrev cX5_cut : ByteArray := prog_7_method_4_code
def yX5_cut : MethodName := ⟨RX5, "cut", "(I)I"⟩
abbrev cX5_rowFault : ByteArray := prog_7_method_5_code
def yX5_rowFault : MethodName := ⟨RX5, "rowFault", "(IIII)I"⟩
abbrev cX5_cellsFrom : ByteArray := prog_7_method_6_code
def yX5_cellsFrom : MethodName := ⟨RX5, "cellsFrom", "(II)[I"⟩
def RX6 : String := "RedrawnLines$Tally"
def TX6 : u_T := fun k => match k with
  | 0 => ("RedrawnLines$Tally", "set", "I", true)
  | 1 => ("RedrawnLines$Tally", "going", "I", true)
  | _ => ("RedrawnLines$Tally", "sum", "I", true)
def tyX6 : Nat → FieldType := fun k => match k with
  | 0 => .int
  | 1 => .int
  | _ => .int
abbrev wsX60 : List Cond := u_ws RX6 TX6 3
theorem nmX6 : ∀ a, a < 3 → ∀ b, b < 3 → a ≠ b → (TX6 a).2.1 ≠ (TX6 b).2.1 := by decide +kernel
theorem tyX6_ok : ∀ k, k < 3 → parseFieldDescriptor (TX6 k).2.2.1 = some (tyX6 k) := by decide +kernel
abbrev cX6_init : ByteArray := prog_8_method_1_code
def yX6_init : MethodName := ⟨RX6, "<init>", "(III)V"⟩
abbrev cX6_beats : ByteArray := prog_8_method_2_code
def yX6_beats : MethodName := ⟨RX6, "beats", "(LRedrawnLines$Tally;)Z"⟩
def RX7 : String := "RedrawnLines$Text"
def TX7 : u_T := fun k => match k with
  | _ => ("RedrawnLines$Text", "numbers", "[I", true)
def tyX7 : Nat → FieldType := fun k => match k with
  | _ => .array .int
abbrev wsX70 : List Cond := u_ws RX7 TX7 1
theorem nmX7 : ∀ a, a < 1 → ∀ b, b < 1 → a ≠ b → (TX7 a).2.1 ≠ (TX7 b).2.1 := by decide +kernel
theorem tyX7_ok : ∀ k, k < 1 → parseFieldDescriptor (TX7 k).2.2.1 = some (tyX7 k) := by decide +kernel
abbrev cX7_init : ByteArray := prog_9_method_1_code
def yX7_init : MethodName := ⟨RX7, "<init>", "()V"⟩
abbrev cX7_firstFault : ByteArray := prog_9_method_2_code
def yX7_firstFault : MethodName := ⟨RX7, "firstFault", "([II)I"⟩
abbrev cX7_endOfNumber : ByteArray := prog_9_method_3_code
def yX7_endOfNumber : MethodName := ⟨RX7, "endOfNumber", "([II)I"⟩
abbrev cX7_valueOf : ByteArray := prog_9_method_4_code
def yX7_valueOf : MethodName := ⟨RX7, "valueOf", "([III)I"⟩
abbrev cX7_isAsTold : ByteArray := prog_9_method_5_code
def yX7_isAsTold : MethodName := ⟨RX7, "isAsTold", "(II)Z"⟩
abbrev cX7_isInForce : ByteArray := prog_9_method_6_code
def yX7_isInForce : MethodName := ⟨RX7, "isInForce", "(II)Z"⟩
abbrev cX7_least : ByteArray := prog_9_method_7_code
def yX7_least : MethodName := ⟨RX7, "least", "()I"⟩
def RX8 : String := "RedrawnLines$Trip"
def TX8 : u_T := fun k => match k with
  | 0 => ("RedrawnLines$Trip", "from", "I", true)
  | 1 => ("RedrawnLines$Trip", "to", "I", true)
  | 2 => ("RedrawnLines$Trip", "start", "I", true)
  | 3 => ("RedrawnLines$Trip", "most", "I", true)
  | _ => ("RedrawnLines$Trip", "rides", "I", true)
def tyX8 : Nat → FieldType := fun k => match k with
  | 0 => .int
  | 1 => .int
  | 2 => .int
  | 3 => .int
  | _ => .int
abbrev wsX80 : List Cond := u_ws RX8 TX8 5
theorem nmX8 : ∀ a, a < 5 → ∀ b, b < 5 → a ≠ b → (TX8 a).2.1 ≠ (TX8 b).2.1 := by decide +kernel
theorem tyX8_ok : ∀ k, k < 5 → parseFieldDescriptor (TX8 k).2.2.1 = some (tyX8 k) := by decide +kernel
abbrev cX8_init : ByteArray := prog_10_method_1_code
def yX8_init : MethodName := ⟨RX8, "<init>", "(IIIII)V"⟩
def RX9 : String := "RedrawnLines$WayFinder"
def TX9 : u_T := fun k => match k with
  | 0 => ("RedrawnLines$WayFinder", "net", "LRedrawnLines$Network;", true)
  | 1 => ("RedrawnLines$WayFinder", "arrived", "[I", true)
  | 2 => ("RedrawnLines$WayFinder", "ready", "[I", true)
  | 3 => ("RedrawnLines$WayFinder", "soonest", "[I", true)
  | 4 => ("RedrawnLines$WayFinder", "there", "I", false)
  | 5 => ("RedrawnLines$WayFinder", "ridden", "I", false)
  | _ => ("RedrawnLines$WayFinder", "walked", "I", false)
def tyX9 : Nat → FieldType := fun k => match k with
  | 0 => .object "RedrawnLines$Network"
  | 1 => .array .int
  | 2 => .array .int
  | 3 => .array .int
  | 4 => .int
  | 5 => .int
  | _ => .int
abbrev wsX90 : List Cond := u_ws RX9 TX9 7
theorem nmX9 : ∀ a, a < 7 → ∀ b, b < 7 → a ≠ b → (TX9 a).2.1 ≠ (TX9 b).2.1 := by decide +kernel
theorem tyX9_ok : ∀ k, k < 7 → parseFieldDescriptor (TX9 k).2.2.1 = some (tyX9 k) := by decide +kernel
abbrev cX9_init : ByteArray := prog_11_method_1_code
def yX9_init : MethodName := ⟨RX9, "<init>", "(LRedrawnLines$Network;)V"⟩
abbrev cX9_search : ByteArray := prog_11_method_2_code
def yX9_search : MethodName := ⟨RX9, "search", "(LRedrawnLines$Trip;I)V"⟩
abbrev cX9_thin : ByteArray := prog_11_method_3_code
def yX9_thin : MethodName := ⟨RX9, "thin", "([II)V"⟩
abbrev cX9_walkOn : ByteArray := prog_11_method_4_code
def yX9_walkOn : MethodName := ⟨RX9, "walkOn", "(I)V"⟩
abbrev cX9_walkFrom : ByteArray := prog_11_method_5_code
def yX9_walkFrom : MethodName := ⟨RX9, "walkFrom", "(III)V"⟩
abbrev cX9_noteArrival : ByteArray := prog_11_method_6_code
def yX9_noteArrival : MethodName := ⟨RX9, "noteArrival", "(LRedrawnLines$Trip;I)V"⟩
abbrev cX9_remember : ByteArray := prog_11_method_7_code
def yX9_remember : MethodName := ⟨RX9, "remember", "(I)I"⟩
abbrev cX9_rideOn : ByteArray := prog_11_method_8_code
def yX9_rideOn : MethodName := ⟨RX9, "rideOn", "(II)V"⟩
abbrev cX9_rideAlong : ByteArray := prog_11_method_9_code
def yX9_rideAlong : MethodName := ⟨RX9, "rideAlong", "(LRedrawnLines$Line;I)V"⟩
def RX10 : String := "RedrawnLines"
def TX10 : u_T := fun k => match k with
  | 0 => ("RedrawnLines", "net", "LRedrawnLines$Network;", true)
  | 1 => ("RedrawnLines", "texts", "[LRedrawnLines$Text;", true)
  | 2 => ("RedrawnLines", "textCount", "I", false)
  | 3 => ("RedrawnLines", "trips", "[LRedrawnLines$Trip;", true)
  | 4 => ("RedrawnLines", "tripCount", "I", false)
  | 5 => ("RedrawnLines", "ways", "LRedrawnLines$WayFinder;", true)
  | 6 => ("RedrawnLines", "offered", "[LRedrawnLines$Line;", true)
  | 7 => ("RedrawnLines", "offeredCount", "I", false)
  | 8 => ("RedrawnLines", "depots", "[LRedrawnLines$Depot;", true)
  | 9 => ("RedrawnLines", "depotCount", "I", false)
  | 10 => ("RedrawnLines", "known", "[I", true)
  | 11 => ("RedrawnLines", "driverCount", "I", false)
  | 12 => ("RedrawnLines", "sharing", "LRedrawnLines$Sharing;", true)
  | 13 => ("RedrawnLines", "boards", "I", false)
  | 14 => ("RedrawnLines", "round", "LRedrawnLines$NightRound;", true)
  | 15 => ("RedrawnLines", "seatCount", "I", false)
  | 16 => ("RedrawnLines", "sheets", "[LRedrawnLines$Sheet;", true)
  | 17 => ("RedrawnLines", "traced", "I", false)
  | _ => ("RedrawnLines", "latestFault", "I", false)
def tyX10 : Nat → FieldType := fun k => match k with
  | 0 => .object "RedrawnLines$Network"
  | 1 => .array (.object "RedrawnLines$Text")
  | 2 => .int
  | 3 => .array (.object "RedrawnLines$Trip")
  | 4 => .int
  | 5 => .object "RedrawnLines$WayFinder"
  | 6 => .array (.object "RedrawnLines$Line")
  | 7 => .int
  | 8 => .array (.object "RedrawnLines$Depot")
  | 9 => .int
  | 10 => .array .int
  | 11 => .int
  | 12 => .object "RedrawnLines$Sharing"
  | 13 => .int
  | 14 => .object "RedrawnLines$NightRound"
  | 15 => .int
  | 16 => .array (.object "RedrawnLines$Sheet")
  | 17 => .int
  | _ => .int
abbrev wsX100 : List Cond := u_ws RX10 TX10 19
theorem nmX10 : ∀ a, a < 19 → ∀ b, b < 19 → a ≠ b → (TX10 a).2.1 ≠ (TX10 b).2.1 := by decide +kernel
theorem tyX10_ok : ∀ k, k < 19 → parseFieldDescriptor (TX10 k).2.2.1 = some (tyX10 k) := by decide +kernel
abbrev cX10_init : ByteArray := prog_1_method_1_code
def yX10_init : MethodName := ⟨RX10, "<init>", "()V"⟩
abbrev cX10_stop : ByteArray := prog_1_method_2_code
def yX10_stop : MethodName := ⟨RX10, "stop", "(II)I"⟩
abbrev cX10_line : ByteArray := prog_1_method_3_code
def yX10_line : MethodName := ⟨RX10, "line", "(IIIIIIII)I"⟩
abbrev cX10_days : ByteArray := prog_1_method_4_code
def yX10_days : MethodName := ⟨RX10, "days", "(III)I"⟩
abbrev cX10_ofLine : ByteArray := prog_1_method_5_code
def yX10_ofLine : MethodName := ⟨RX10, "ofLine", "(II)I"⟩
abbrev cX10_runs : ByteArray := prog_1_method_6_code
def yX10_runs : MethodName := ⟨RX10, "runs", "(II)I"⟩
abbrev cX10_minute : ByteArray := prog_1_method_7_code
def yX10_minute : MethodName := ⟨RX10, "minute", "(III)I"⟩
abbrev cX10_far : ByteArray := prog_1_method_8_code
def yX10_far : MethodName := ⟨RX10, "far", "(II)I"⟩
abbrev cX10_text : ByteArray := prog_1_method_9_code
def yX10_text : MethodName := ⟨RX10, "text", "(IIII)I"⟩
abbrev cX10_owed : ByteArray := prog_1_method_10_code
def yX10_owed : MethodName := ⟨RX10, "owed", "(II)I"⟩
abbrev cX10_why : ByteArray := prog_1_method_11_code
def yX10_why : MethodName := ⟨RX10, "why", "(II)I"⟩
abbrev cX10_served : ByteArray := prog_1_method_12_code
def yX10_served : MethodName := ⟨RX10, "served", "(II)I"⟩
abbrev cX10_breach : ByteArray := prog_1_method_13_code
def yX10_breach : MethodName := ⟨RX10, "breach", "(I)I"⟩
abbrev cX10_trip : ByteArray := prog_1_method_14_code
def yX10_trip : MethodName := ⟨RX10, "trip", "(IIIII)I"⟩
abbrev cX10_way : ByteArray := prog_1_method_15_code
def yX10_way : MethodName := ⟨RX10, "way", "(III)I"⟩
abbrev cX10_lose : ByteArray := prog_1_method_16_code
def yX10_lose : MethodName := ⟨RX10, "lose", "(III)I"⟩
abbrev cX10_who : ByteArray := prog_1_method_17_code
def yX10_who : MethodName := ⟨RX10, "who", "(III)I"⟩
abbrev cX10_offer : ByteArray := prog_1_method_18_code
def yX10_offer : MethodName := ⟨RX10, "offer", "(I)I"⟩
abbrev cX10_best : ByteArray := prog_1_method_19_code
def yX10_best : MethodName := ⟨RX10, "best", "(III)I"⟩
abbrev cX10_depot : ByteArray := prog_1_method_20_code
def yX10_depot : MethodName := ⟨RX10, "depot", "(III)I"⟩
abbrev cX10_empty : ByteArray := prog_1_method_21_code
def yX10_empty : MethodName := ⟨RX10, "empty", "(II)I"⟩
abbrev cX10_fit : ByteArray := prog_1_method_22_code
def yX10_fit : MethodName := ⟨RX10, "fit", "(II)I"⟩
abbrev cX10_driver : ByteArray := prog_1_method_23_code
def yX10_driver : MethodName := ⟨RX10, "driver", "()I"⟩
abbrev cX10_know : ByteArray := prog_1_method_24_code
def yX10_know : MethodName := ⟨RX10, "know", "(IIZ)I"⟩
abbrev cX10_roster : ByteArray := prog_1_method_25_code
def yX10_roster : MethodName := ⟨RX10, "roster", "(II)I"⟩
abbrev cX10_board : ByteArray := prog_1_method_26_code
def yX10_board : MethodName := ⟨RX10, "board", "(IZ)I"⟩
abbrev cX10_night : ByteArray := prog_1_method_27_code
def yX10_night : MethodName := ⟨RX10, "night", "(IIII)I"⟩
abbrev cX10_waiting : ByteArray := prog_1_method_28_code
def yX10_waiting : MethodName := ⟨RX10, "waiting", "(III)I"⟩
abbrev cX10_seats : ByteArray := prog_1_method_29_code
def yX10_seats : MethodName := ⟨RX10, "seats", "(I)I"⟩
abbrev cX10_standing : ByteArray := prog_1_method_30_code
def yX10_standing : MethodName := ⟨RX10, "standing", "(III)I"⟩
abbrev cX10_extra : ByteArray := prog_1_method_31_code
def yX10_extra : MethodName := ⟨RX10, "extra", "(I)I"⟩
abbrev cX10_sheet : ByteArray := prog_1_method_32_code
def yX10_sheet : MethodName := ⟨RX10, "sheet", "(III)I"⟩
abbrev cX10_drop : ByteArray := prog_1_method_33_code
def yX10_drop : MethodName := ⟨RX10, "drop", "(I)I"⟩
abbrev cX10_put : ByteArray := prog_1_method_34_code
def yX10_put : MethodName := ⟨RX10, "put", "(III)I"⟩
abbrev cX10_cell : ByteArray := prog_1_method_35_code
def yX10_cell : MethodName := ⟨RX10, "cell", "(III)J"⟩
abbrev cX10_copy : ByteArray := prog_1_method_36_code
def yX10_copy : MethodName := ⟨RX10, "copy", "(IIIII)I"⟩
abbrev cX10_tell : ByteArray := prog_1_method_37_code
def yX10_tell : MethodName := ⟨RX10, "tell", "(I)I"⟩
abbrev cX10_hail : ByteArray := prog_1_method_38_code
def yX10_hail : MethodName := ⟨RX10, "hail", "(I)I"⟩
abbrev cX10_as : ByteArray := prog_1_method_39_code
def yX10_as : MethodName := ⟨RX10, "as", "(II)I"⟩
abbrev cX10_trace : ByteArray := prog_1_method_40_code
def yX10_trace : MethodName := ⟨RX10, "trace", "()I"⟩
abbrev cX10_fault : ByteArray := prog_1_method_41_code
def yX10_fault : MethodName := ⟨RX10, "fault", "()I"⟩
abbrev cX10_many : ByteArray := prog_1_method_42_code
def yX10_many : MethodName := ⟨RX10, "many", "(I)I"⟩
abbrev cX10_isWithin : ByteArray := prog_1_method_43_code
def yX10_isWithin : MethodName := ⟨RX10, "isWithin", "(III)Z"⟩
abbrev cX10_isPlace : ByteArray := prog_1_method_44_code
def yX10_isPlace : MethodName := ⟨RX10, "isPlace", "(II)Z"⟩
abbrev cX10_isDay : ByteArray := prog_1_method_45_code
def yX10_isDay : MethodName := ⟨RX10, "isDay", "(I)Z"⟩
abbrev cX10_isKind : ByteArray := prog_1_method_46_code
def yX10_isKind : MethodName := ⟨RX10, "isKind", "(I)Z"⟩
abbrev cX10_isTimetable : ByteArray := prog_1_method_47_code
def yX10_isTimetable : MethodName := ⟨RX10, "isTimetable", "(III)Z"⟩
abbrev cX10_isSheet : ByteArray := prog_1_method_48_code
def yX10_isSheet : MethodName := ⟨RX10, "isSheet", "(I)Z"⟩
abbrev cX10_isLane : ByteArray := prog_1_method_49_code
def yX10_isLane : MethodName := ⟨RX10, "isLane", "(I)Z"⟩
abbrev cX10_isTrip : ByteArray := prog_1_method_50_code
def yX10_isTrip : MethodName := ⟨RX10, "isTrip", "(I)Z"⟩
abbrev cX10_has : ByteArray := prog_1_method_51_code
def yX10_has : MethodName := ⟨RX10, "has", "(II)Z"⟩
abbrev cX10_bitIf : ByteArray := prog_1_method_52_code
def yX10_bitIf : MethodName := ⟨RX10, "bitIf", "(ZI)I"⟩
abbrev cX10_fail : ByteArray := prog_1_method_53_code
def yX10_fail : MethodName := ⟨RX10, "fail", "(I)I"⟩
abbrev cX10_textFor : ByteArray := prog_1_method_54_code
def yX10_textFor : MethodName := ⟨RX10, "textFor", "(II)I"⟩
abbrev cX10_owedTo : ByteArray := prog_1_method_55_code
def yX10_owedTo : MethodName := ⟨RX10, "owedTo", "(II)I"⟩
abbrev cX10_arrival : ByteArray := prog_1_method_56_code
def yX10_arrival : MethodName := ⟨RX10, "arrival", "(II)I"⟩
abbrev cX10_worseBy : ByteArray := prog_1_method_57_code
def yX10_worseBy : MethodName := ⟨RX10, "worseBy", "(II)I"⟩
abbrev cX10_offeredLines : ByteArray := prog_1_method_58_code
def yX10_offeredLines : MethodName := ⟨RX10, "offeredLines", "(I)I"⟩
abbrev cX10_tallyOf : ByteArray := prog_1_method_59_code
def yX10_tallyOf : MethodName := ⟨RX10, "tallyOf", "(II)LRedrawnLines$Tally;"⟩
abbrev cX10_emptyMinutes : ByteArray := prog_1_method_60_code
def yX10_emptyMinutes : MethodName := ⟨RX10, "emptyMinutes", "(LRedrawnLines$Line;LRedrawnLines$Depot;)I"⟩
abbrev cX10_leave : ByteArray := prog_1_method_61_code
def yX10_leave : MethodName := ⟨RX10, "leave", "(I)V"⟩
abbrev cX10_toldByLine : ByteArray := prog_1_method_62_code
def yX10_toldByLine : MethodName := ⟨RX10, "toldByLine", "(LRedrawnLines$Line;)I"⟩
abbrev cX10_toldBySchool : ByteArray := prog_1_method_63_code
def yX10_toldBySchool : MethodName := ⟨RX10, "toldBySchool", "(LRedrawnLines$Line;)I"⟩
abbrev cX10_toldByNight : ByteArray := prog_1_method_64_code
def yX10_toldByNight : MethodName := ⟨RX10, "toldByNight", "(LRedrawnLines$Line;)I"⟩
def RX11 : String := "RedrawnLinesModel"
def TX11 : u_T := fun k => match k with
  | 0 => ("RedrawnLinesModel", "fault", "I", false)
  | 1 => ("RedrawnLinesModel", "stops", "I", false)
  | 2 => ("RedrawnLinesModel", "xOf", "[I", true)
  | 3 => ("RedrawnLinesModel", "atY", "[I", true)
  | 4 => ("RedrawnLinesModel", "lines", "I", false)
  | 5 => ("RedrawnLinesModel", "kindOf", "[I", true)
  | 6 => ("RedrawnLinesModel", "stopMany", "[I", true)
  | 7 => ("RedrawnLinesModel", "lineStop", "[I", true)
  | 8 => ("RedrawnLinesModel", "offset", "[I", true)
  | 9 => ("RedrawnLinesModel", "firstOf", "[I", true)
  | 10 => ("RedrawnLinesModel", "everyOf", "[I", true)
  | 11 => ("RedrawnLinesModel", "lastOf", "[I", true)
  | 12 => ("RedrawnLinesModel", "fromDay", "[I", true)
  | 13 => ("RedrawnLinesModel", "toDay", "[I", true)
  | 14 => ("RedrawnLinesModel", "waitingAt", "[I", true)
  | 15 => ("RedrawnLinesModel", "texts", "I", false)
  | 16 => ("RedrawnLinesModel", "textStop", "[I", true)
  | 17 => ("RedrawnLinesModel", "textMany", "[I", true)
  | 18 => ("RedrawnLinesModel", "textFrom", "[I", true)
  | 19 => ("RedrawnLinesModel", "textTo", "[I", true)
  | 20 => ("RedrawnLinesModel", "read", "[I", true)
  | 21 => ("RedrawnLinesModel", "readAt", "I", false)
  | 22 => ("RedrawnLinesModel", "trips", "I", false)
  | 23 => ("RedrawnLinesModel", "tripFrom", "[I", true)
  | 24 => ("RedrawnLinesModel", "tripTo", "[I", true)
  | 25 => ("RedrawnLinesModel", "tripStart", "[I", true)
  | 26 => ("RedrawnLinesModel", "tripMost", "[I", true)
  | 27 => ("RedrawnLinesModel", "tripRides", "[I", true)
  | 28 => ("RedrawnLinesModel", "ridden", "I", false)
  | 29 => ("RedrawnLinesModel", "there", "[I", true)
  | 30 => ("RedrawnLinesModel", "ridTo", "[I", true)
  | 31 => ("RedrawnLinesModel", "bestMinute", "I", false)
  | 32 => ("RedrawnLinesModel", "bestRides", "I", false)
  | 33 => ("RedrawnLinesModel", "bestWalked", "I", false)
  | 34 => ("RedrawnLinesModel", "offered", "I", false)
  | 35 => ("RedrawnLinesModel", "offerOf", "[I", true)
  | 36 => ("RedrawnLinesModel", "depots", "I", false)
  | 37 => ("RedrawnLinesModel", "depotX", "[I", true)
  | 38 => ("RedrawnLinesModel", "depotY", "[I", true)
  | 39 => ("RedrawnLinesModel", "roomOf", "[I", true)
  | 40 => ("RedrawnLinesModel", "runMany", "I", false)
  | 41 => ("RedrawnLinesModel", "runOf", "[I", true)
  | 42 => ("RedrawnLinesModel", "given", "[I", true)
  | 43 => ("RedrawnLinesModel", "rowBest", "I", false)
  | 44 => ("RedrawnLinesModel", "rowLeast", "I", false)
  | 45 => ("RedrawnLinesModel", "drivers", "I", false)
  | 46 => ("RedrawnLinesModel", "knowing", "[I", true)
  | 47 => ("RedrawnLinesModel", "boards", "I", false)
  | 48 => ("RedrawnLinesModel", "boardStop", "[I", true)
  | 49 => ("RedrawnLinesModel", "boardFrom", "[I", true)
  | 50 => ("RedrawnLinesModel", "boardTill", "[I", true)
  | 51 => ("RedrawnLinesModel", "seats", "I", false)
  | 52 => ("RedrawnLinesModel", "sheetSize", "[I", true)
  | 53 => ("RedrawnLinesModel", "sheetLane", "[I", true)
  | 54 => ("RedrawnLinesModel", "sheet", "[I", true)
  | 55 => ("RedrawnLinesModel", "hands", "[I", true)
  | _ => ("RedrawnLinesModel", "traceNow", "I", false)
def tyX11 : Nat → FieldType := fun k => match k with
  | 0 => .int
  | 1 => .int
  | 2 => .array .int
  | 3 => .array .int
  | 4 => .int
  | 5 => .array .int
  | 6 => .array .int
  | 7 => .array .int
  | 8 => .array .int
  | 9 => .array .int
  | 10 => .array .int
  | 11 => .array .int
  | 12 => .array .int
  | 13 => .array .int
  | 14 => .array .int
  | 15 => .int
  | 16 => .array .int
  | 17 => .array .int
  | 18 => .array .int
  | 19 => .array .int
  | 20 => .array .int
  | 21 => .int
  | 22 => .int
  | 23 => .array .int
  | 24 => .array .int
  | 25 => .array .int
  | 26 => .array .int
  | 27 => .array .int
  | 28 => .int
  | 29 => .array .int
  | 30 => .array .int
  | 31 => .int
  | 32 => .int
  | 33 => .int
  | 34 => .int
  | 35 => .array .int
  | 36 => .int
  | 37 => .array .int
  | 38 => .array .int
  | 39 => .array .int
  | 40 => .int
  | 41 => .array .int
  | 42 => .array .int
  | 43 => .int
  | 44 => .int
  | 45 => .int
  | 46 => .array .int
  | 47 => .int
  | 48 => .array .int
  | 49 => .array .int
  | 50 => .array .int
  | 51 => .int
  | 52 => .array .int
  | 53 => .array .int
  | 54 => .array .int
  | 55 => .array .int
  | _ => .int
abbrev wsX110 : List Cond := u_ws RX11 TX11 57
theorem nmX11 : ∀ a, a < 57 → ∀ b, b < 57 → a ≠ b → (TX11 a).2.1 ≠ (TX11 b).2.1 := by decide +kernel
theorem tyX11_ok : ∀ k, k < 57 → parseFieldDescriptor (TX11 k).2.2.1 = some (tyX11 k) := by decide +kernel
abbrev cX11_init : ByteArray := prog_13_method_1_code
def yX11_init : MethodName := ⟨RX11, "<init>", "()V"⟩
abbrev cX11_in : ByteArray := prog_13_method_2_code
def yX11_in : MethodName := ⟨RX11, "in", "(JJJ)Z"⟩
abbrev cX11_lost : ByteArray := prog_13_method_3_code
def yX11_lost : MethodName := ⟨RX11, "lost", "()J"⟩
abbrev cX11_hasBit : ByteArray := prog_13_method_4_code
def yX11_hasBit : MethodName := ⟨RX11, "hasBit", "(II)Z"⟩
abbrev cX11_sizeOf : ByteArray := prog_13_method_5_code
def yX11_sizeOf : MethodName := ⟨RX11, "sizeOf", "(I)I"⟩
abbrev cX11_lesser : ByteArray := prog_13_method_6_code
def yX11_lesser : MethodName := ⟨RX11, "lesser", "(II)I"⟩
abbrev cX11_greater : ByteArray := prog_13_method_7_code
def yX11_greater : MethodName := ⟨RX11, "greater", "(II)I"⟩
abbrev cX11_isDay : ByteArray := prog_13_method_8_code
def yX11_isDay : MethodName := ⟨RX11, "isDay", "(I)Z"⟩
abbrev cX11_refused : ByteArray := prog_13_method_9_code
def yX11_refused : MethodName := ⟨RX11, "refused", "(I)I"⟩
abbrev cX11_failed : ByteArray := prog_13_method_10_code
def yX11_failed : MethodName := ⟨RX11, "failed", "(I)I"⟩
abbrev cX11_failedLong : ByteArray := prog_13_method_11_code
def yX11_failedLong : MethodName := ⟨RX11, "failedLong", "(I)J"⟩
abbrev cX11_barred : ByteArray := prog_13_method_12_code
def yX11_barred : MethodName := ⟨RX11, "barred", "(IIIJ)I"⟩
abbrev cX11_noStop : ByteArray := prog_13_method_13_code
def yX11_noStop : MethodName := ⟨RX11, "noStop", "(I)Z"⟩
abbrev cX11_stop : ByteArray := prog_13_method_14_code
def yX11_stop : MethodName := ⟨RX11, "stop", "(II)I"⟩
abbrev cX11_farOf : ByteArray := prog_13_method_15_code
def yX11_farOf : MethodName := ⟨RX11, "farOf", "(II)I"⟩
abbrev cX11_far : ByteArray := prog_13_method_16_code
def yX11_far : MethodName := ⟨RX11, "far", "(II)I"⟩
abbrev cX11_noLine : ByteArray := prog_13_method_17_code
def yX11_noLine : MethodName := ⟨RX11, "noLine", "(I)Z"⟩
abbrev cX11_areUnlike : ByteArray := prog_13_method_18_code
def yX11_areUnlike : MethodName := ⟨RX11, "areUnlike", "(II)Z"⟩
abbrev cX11_line : ByteArray := prog_13_method_19_code
def yX11_line : MethodName := ⟨RX11, "line", "(IIIIIIII)I"⟩
abbrev cX11_days : ByteArray := prog_13_method_20_code
def yX11_days : MethodName := ⟨RX11, "days", "(III)I"⟩
abbrev cX11_buses : ByteArray := prog_13_method_21_code
def yX11_buses : MethodName := ⟨RX11, "buses", "(I)I"⟩
abbrev cX11_roundOf : ByteArray := prog_13_method_22_code
def yX11_roundOf : MethodName := ⟨RX11, "roundOf", "(I)I"⟩
abbrev cX11_ofLine : ByteArray := prog_13_method_23_code
def yX11_ofLine : MethodName := ⟨RX11, "ofLine", "(II)I"⟩
abbrev cX11_doesRun : ByteArray := prog_13_method_24_code
def yX11_doesRun : MethodName := ⟨RX11, "doesRun", "(II)Z"⟩
abbrev cX11_runs : ByteArray := prog_13_method_25_code
def yX11_runs : MethodName := ⟨RX11, "runs", "(II)I"⟩
abbrev cX11_minuteAt : ByteArray := prog_13_method_26_code
def yX11_minuteAt : MethodName := ⟨RX11, "minuteAt", "(III)I"⟩
abbrev cX11_minute : ByteArray := prog_13_method_27_code
def yX11_minute : MethodName := ⟨RX11, "minute", "(III)I"⟩
abbrev cX11_readsNumber : ByteArray := prog_13_method_28_code
def yX11_readsNumber : MethodName := ⟨RX11, "readsNumber", "(III)Z"⟩
abbrev cX11_readText : ByteArray := prog_13_method_29_code
def yX11_readText : MethodName := ⟨RX11, "readText", "(II)I"⟩
abbrev cX11_text : ByteArray := prog_13_method_30_code
def yX11_text : MethodName := ⟨RX11, "text", "(IIII)I"⟩
abbrev cX11_textFor : ByteArray := prog_13_method_31_code
def yX11_textFor : MethodName := ⟨RX11, "textFor", "(II)I"⟩
abbrev cX11_owedTo : ByteArray := prog_13_method_32_code
def yX11_owedTo : MethodName := ⟨RX11, "owedTo", "(II)I"⟩
abbrev cX11_owed : ByteArray := prog_13_method_33_code
def yX11_owed : MethodName := ⟨RX11, "owed", "(II)I"⟩
abbrev cX11_why : ByteArray := prog_13_method_34_code
def yX11_why : MethodName := ⟨RX11, "why", "(II)I"⟩
abbrev cX11_servedAt : ByteArray := prog_13_method_35_code
def yX11_servedAt : MethodName := ⟨RX11, "servedAt", "(II)I"⟩
abbrev cX11_served : ByteArray := prog_13_method_36_code
def yX11_served : MethodName := ⟨RX11, "served", "(II)I"⟩
abbrev cX11_breach : ByteArray := prog_13_method_37_code
def yX11_breach : MethodName := ⟨RX11, "breach", "(I)I"⟩
abbrev cX11_noTrip : ByteArray := prog_13_method_38_code
def yX11_noTrip : MethodName := ⟨RX11, "noTrip", "(I)Z"⟩
abbrev cX11_trip : ByteArray := prog_13_method_39_code
def yX11_trip : MethodName := ⟨RX11, "trip", "(IIIII)I"⟩
abbrev cX11_placeOf : ByteArray := prog_13_method_40_code
def yX11_placeOf : MethodName := ⟨RX11, "placeOf", "(III)I"⟩
abbrev cX11_walkFrom : ByteArray := prog_13_method_41_code
def yX11_walkFrom : MethodName := ⟨RX11, "walkFrom", "(II)V"⟩
abbrev cX11_rideFrom : ByteArray := prog_13_method_42_code
def yX11_rideFrom : MethodName := ⟨RX11, "rideFrom", "(II)V"⟩
abbrev cX11_layWay : ByteArray := prog_13_method_43_code
def yX11_layWay : MethodName := ⟨RX11, "layWay", "(I)V"⟩
abbrev cX11_runningOn : ByteArray := prog_13_method_44_code
def yX11_runningOn : MethodName := ⟨RX11, "runningOn", "(I)I"⟩
abbrev cX11_way : ByteArray := prog_13_method_45_code
def yX11_way : MethodName := ⟨RX11, "way", "(III)I"⟩
abbrev cX11_worse : ByteArray := prog_13_method_46_code
def yX11_worse : MethodName := ⟨RX11, "worse", "(III)I"⟩
abbrev cX11_lose : ByteArray := prog_13_method_47_code
def yX11_lose : MethodName := ⟨RX11, "lose", "(III)I"⟩
abbrev cX11_who : ByteArray := prog_13_method_48_code
def yX11_who : MethodName := ⟨RX11, "who", "(III)I"⟩
abbrev cX11_offer : ByteArray := prog_13_method_49_code
def yX11_offer : MethodName := ⟨RX11, "offer", "(I)I"⟩
abbrev cX11_busMinutes : ByteArray := prog_13_method_50_code
def yX11_busMinutes : MethodName := ⟨RX11, "busMinutes", "(II)I"⟩
abbrev cX11_rideNet : ByteArray := prog_13_method_51_code
def yX11_rideNet : MethodName := ⟨RX11, "rideNet", "(II)V"⟩
abbrev cX11_best : ByteArray := prog_13_method_52_code
def yX11_best : MethodName := ⟨RX11, "best", "(III)I"⟩
abbrev cX11_depot : ByteArray := prog_13_method_53_code
def yX11_depot : MethodName := ⟨RX11, "depot", "(III)I"⟩
abbrev cX11_toDepot : ByteArray := prog_13_method_54_code
def yX11_toDepot : MethodName := ⟨RX11, "toDepot", "(II)I"⟩
abbrev cX11_emptyOf : ByteArray := prog_13_method_55_code
def yX11_emptyOf : MethodName := ⟨RX11, "emptyOf", "(II)I"⟩
abbrev cX11_empty : ByteArray := prog_13_method_56_code
def yX11_empty : MethodName := ⟨RX11, "empty", "(II)I"⟩
abbrev cX11_layRuns : ByteArray := prog_13_method_57_code
def yX11_layRuns : MethodName := ⟨RX11, "layRuns", "(I)V"⟩
abbrev cX11_layRow : ByteArray := prog_13_method_58_code
def yX11_layRow : MethodName := ⟨RX11, "layRow", "(II)V"⟩
abbrev cX11_power : ByteArray := prog_13_method_59_code
def yX11_power : MethodName := ⟨RX11, "power", "(II)I"⟩
abbrev cX11_doFit : ByteArray := prog_13_method_60_code
def yX11_doFit : MethodName := ⟨RX11, "doFit", "()Z"⟩
abbrev cX11_areAllUnlike : ByteArray := prog_13_method_61_code
def yX11_areAllUnlike : MethodName := ⟨RX11, "areAllUnlike", "()Z"⟩
abbrev cX11_findRow : ByteArray := prog_13_method_62_code
def yX11_findRow : MethodName := ⟨RX11, "findRow", "(ZI)V"⟩
abbrev cX11_rowTold : ByteArray := prog_13_method_63_code
def yX11_rowTold : MethodName := ⟨RX11, "rowTold", "(II)I"⟩
abbrev cX11_fit : ByteArray := prog_13_method_64_code
def yX11_fit : MethodName := ⟨RX11, "fit", "(II)I"⟩
abbrev cX11_driver : ByteArray := prog_13_method_65_code
def yX11_driver : MethodName := ⟨RX11, "driver", "()I"⟩
abbrev cX11_know : ByteArray := prog_13_method_66_code
def yX11_know : MethodName := ⟨RX11, "know", "(IIZ)I"⟩
abbrev cX11_taught : ByteArray := prog_13_method_67_code
def yX11_taught : MethodName := ⟨RX11, "taught", "(II)I"⟩
abbrev cX11_roster : ByteArray := prog_13_method_68_code
def yX11_roster : MethodName := ⟨RX11, "roster", "(II)I"⟩
abbrev cX11_board : ByteArray := prog_13_method_69_code
def yX11_board : MethodName := ⟨RX11, "board", "(IZ)I"⟩
abbrev cX11_boardMany : ByteArray := prog_13_method_70_code
def yX11_boardMany : MethodName := ⟨RX11, "boardMany", "()I"⟩
abbrev cX11_layBoards : ByteArray := prog_13_method_71_code
def yX11_layBoards : MethodName := ⟨RX11, "layBoards", "(I)V"⟩
abbrev cX11_doneBy : ByteArray := prog_13_method_72_code
def yX11_doneBy : MethodName := ⟨RX11, "doneBy", "(III)I"⟩
abbrev cX11_night : ByteArray := prog_13_method_73_code
def yX11_night : MethodName := ⟨RX11, "night", "(IIII)I"⟩
abbrev cX11_noQueue : ByteArray := prog_13_method_74_code
def yX11_noQueue : MethodName := ⟨RX11, "noQueue", "(II)Z"⟩
abbrev cX11_waiting : ByteArray := prog_13_method_75_code
def yX11_waiting : MethodName := ⟨RX11, "waiting", "(III)I"⟩
abbrev cX11_seats : ByteArray := prog_13_method_76_code
def yX11_seats : MethodName := ⟨RX11, "seats", "(I)I"⟩
abbrev cX11_standing : ByteArray := prog_13_method_77_code
def yX11_standing : MethodName := ⟨RX11, "standing", "(III)I"⟩
abbrev cX11_extra : ByteArray := prog_13_method_78_code
def yX11_extra : MethodName := ⟨RX11, "extra", "(I)I"⟩
abbrev cX11_noSheet : ByteArray := prog_13_method_79_code
def yX11_noSheet : MethodName := ⟨RX11, "noSheet", "(I)Z"⟩
abbrev cX11_sheet : ByteArray := prog_13_method_80_code
def yX11_sheet : MethodName := ⟨RX11, "sheet", "(III)I"⟩
abbrev cX11_drop : ByteArray := prog_13_method_81_code
def yX11_drop : MethodName := ⟨RX11, "drop", "(I)I"⟩
abbrev cX11_noCell : ByteArray := prog_13_method_82_code
def yX11_noCell : MethodName := ⟨RX11, "noCell", "(II)I"⟩
abbrev cX11_put : ByteArray := prog_13_method_83_code
def yX11_put : MethodName := ⟨RX11, "put", "(III)I"⟩
abbrev cX11_cell : ByteArray := prog_13_method_84_code
def yX11_cell : MethodName := ⟨RX11, "cell", "(III)J"⟩
abbrev cX11_isBeyond : ByteArray := prog_13_method_85_code
def yX11_isBeyond : MethodName := ⟨RX11, "isBeyond", "(IJI)Z"⟩
abbrev cX11_copy : ByteArray := prog_13_method_86_code
def yX11_copy : MethodName := ⟨RX11, "copy", "(IIIII)I"⟩
abbrev cX11_traced : ByteArray := prog_13_method_87_code
def yX11_traced : MethodName := ⟨RX11, "traced", "(I)V"⟩
abbrev cX11_tell : ByteArray := prog_13_method_88_code
def yX11_tell : MethodName := ⟨RX11, "tell", "(I)I"⟩
abbrev cX11_hail : ByteArray := prog_13_method_89_code
def yX11_hail : MethodName := ⟨RX11, "hail", "(I)I"⟩
abbrev cX11_as : ByteArray := prog_13_method_90_code
def yX11_as : MethodName := ⟨RX11, "as", "(II)I"⟩
abbrev cX11_trace : ByteArray := prog_13_method_91_code
def yX11_trace : MethodName := ⟨RX11, "trace", "()I"⟩
abbrev cX11_fault : ByteArray := prog_13_method_92_code
def yX11_fault : MethodName := ⟨RX11, "fault", "()I"⟩
abbrev cX11_many : ByteArray := prog_13_method_93_code
def yX11_many : MethodName := ⟨RX11, "many", "(I)I"⟩
def RJx8e188 : String := "java/lang/Cloneable"
def TJx8e188 : u_T := fun k => match k with
  | _ => ("", "", "", false)
def tyJx8e188 : Nat → FieldType := fun k => match k with
  | _ => .int
abbrev wsJx8e1880 : List Cond := u_ws RJx8e188 TJx8e188 0
theorem nmJx8e188 : ∀ a, a < 0 → ∀ b, b < 0 → a ≠ b → (TJx8e188 a).2.1 ≠ (TJx8e188 b).2.1 := by decide +kernel
theorem tyJx8e188_ok : ∀ k, k < 0 → parseFieldDescriptor (TJx8e188 k).2.2.1 = some (tyJx8e188 k) := by decide +kernel
def RJ6 : String := "java/lang/Integer"
def TJ6 : u_T := fun k => match k with
  | _ => ("", "", "", false)
def tyJ6 : Nat → FieldType := fun k => match k with
  | _ => .int
abbrev wsJ60 : List Cond := u_ws RJ6 TJ6 0
theorem nmJ6 : ∀ a, a < 0 → ∀ b, b < 0 → a ≠ b → (TJ6 a).2.1 ≠ (TJ6 b).2.1 := by decide +kernel
theorem tyJ6_ok : ∀ k, k < 0 → parseFieldDescriptor (TJ6 k).2.2.1 = some (tyJ6 k) := by decide +kernel
abbrev cJ6_bitCount_0f7a4 : ByteArray := prog_15_method_49_code
def yJ6_bitCount_0f7a4 : MethodName := ⟨RJ6, "bitCount", "(I)I"⟩
def RJ9 : String := "java/lang/Math"
def TJ9 : u_T := fun k => match k with
  | _ => ("", "", "", false)
def tyJ9 : Nat → FieldType := fun k => match k with
  | _ => .int
abbrev wsJ90 : List Cond := u_ws RJ9 TJ9 0
theorem nmJ9 : ∀ a, a < 0 → ∀ b, b < 0 → a ≠ b → (TJ9 a).2.1 ≠ (TJ9 b).2.1 := by decide +kernel
theorem tyJ9_ok : ∀ k, k < 0 → parseFieldDescriptor (TJ9 k).2.2.1 = some (tyJ9 k) := by decide +kernel
abbrev cJ9_abs_0f7a4 : ByteArray := prog_16_method_59_code
def yJ9_abs_0f7a4 : MethodName := ⟨RJ9, "abs", "(I)I"⟩
abbrev cJ9_max_7cf53 : ByteArray := prog_16_method_65_code
def yJ9_max_7cf53 : MethodName := ⟨RJ9, "max", "(II)I"⟩
abbrev cJ9_min_7cf53 : ByteArray := prog_16_method_69_code
def yJ9_min_7cf53 : MethodName := ⟨RJ9, "min", "(II)I"⟩
def RJ10 : String := "java/lang/System"
def TJ10 : u_T := fun k => match k with
  | _ => ("", "", "", false)
def tyJ10 : Nat → FieldType := fun k => match k with
  | _ => .int
abbrev wsJ100 : List Cond := u_ws RJ10 TJ10 0
theorem nmJ10 : ∀ a, a < 0 → ∀ b, b < 0 → a ≠ b → (TJ10 a).2.1 ≠ (TJ10 b).2.1 := by decide +kernel
theorem tyJ10_ok : ∀ k, k < 0 → parseFieldDescriptor (TJ10 k).2.2.1 = some (tyJ10 k) := by decide +kernel
def RJ7 : String := "java/util/Arrays"
def TJ7 : u_T := fun k => match k with
  | _ => ("", "", "", false)
def tyJ7 : Nat → FieldType := fun k => match k with
  | _ => .int
abbrev wsJ70 : List Cond := u_ws RJ7 TJ7 0
theorem nmJ7 : ∀ a, a < 0 → ∀ b, b < 0 → a ≠ b → (TJ7 a).2.1 ≠ (TJ7 b).2.1 := by decide +kernel
theorem tyJ7_ok : ∀ k, k < 0 → parseFieldDescriptor (TJ7 k).2.2.1 = some (tyJ7 k) := by decide +kernel
abbrev cJ7_fill_53178 : ByteArray := prog_18_method_103_code
def yJ7_fill_53178 : MethodName := ⟨RJ7, "fill", "([II)V"⟩
abbrev cJ7_checkLength_df160 : ByteArray := prog_18_method_131_code
def yJ7_checkLength_df160 : MethodName := ⟨RJ7, "checkLength", "(II)V"⟩
abbrev cJ7_copyOfRange_feecc : ByteArray := prog_18_method_136_code
def yJ7_copyOfRange_feecc : MethodName := ⟨RJ7, "copyOfRange", "([III)[I"⟩
abbrev cJ7_copyOfRangeInt_feecc : ByteArray := prog_18_method_137_code
def yJ7_copyOfRangeInt_feecc : MethodName := ⟨RJ7, "copyOfRangeInt", "([III)[I"⟩
def RL : String := "RedrawnLinesLaw"
abbrev cL_law : ByteArray := code
def yL_law : MethodName := ⟨RL, "law", "([I)Z"⟩
abbrev vwCl : List vw_C := [(RX0, TX0, 3), (RX1, TX1, 11), (RX2, TX2, 6), (RX3, TX3, 8), (RX4, TX4, 11), (RX5, TX5, 4), (RX6, TX6, 3), (RX7, TX7, 1), (RX8, TX8, 5), (RX9, TX9, 7), (RX10, TX10, 19), (RX11, TX11, 57)]
