section
-- ===== PART A: goes FIRST, ahead of the names: the tables' words, and 'selects' of the private methods out of them =====
/-- a private method of a class that the tables say can be made, by its rows of tables_1 -/
def lw_okq (q : MethodName × Nat) : Prop := (q.1.cls ≠ "java/lang/invoke/MethodHandle" ∧ q.1.cls ≠ "java/lang/invoke/VarHandle") ∧ Cond.instantiable q.1.cls q.2 ∈ tables_1 ∧ Cond.privateMethod q.1 ∈ tables_1 ∧ Cond.instanceMethod q.1 ∈ tables_1
theorem lw_p0 : lw_okq (⟨"TownTable", "refuseAct", "()I"⟩, 20) := ⟨⟨by decide +kernel, by decide +kernel⟩, List.mem_of_getElem? (i := 30) (by decide +kernel), List.mem_of_getElem? (i := 460) (by decide +kernel), List.mem_of_getElem? (i := 461) (by decide +kernel)⟩
theorem lw_p1 : lw_okq (⟨"TownTable$Mover", "hurt", "(LTownTable$Plan;LTownTable$State;I)V"⟩, 1) := ⟨⟨by decide +kernel, by decide +kernel⟩, List.mem_of_getElem? (i := 290) (by decide +kernel), List.mem_of_getElem? (i := 491) (by decide +kernel), List.mem_of_getElem? (i := 492) (by decide +kernel)⟩
theorem lw_p2 : lw_okq (⟨"TownTable$Mover", "setValues", "(LTownTable$Plan;LTownTable$State;I)V"⟩, 1) := ⟨⟨by decide +kernel, by decide +kernel⟩, List.mem_of_getElem? (i := 290) (by decide +kernel), List.mem_of_getElem? (i := 499) (by decide +kernel), List.mem_of_getElem? (i := 500) (by decide +kernel)⟩
theorem lw_p3 : lw_okq (⟨"TownTable$Mover", "wantsToGo", "(LTownTable$Plan;LTownTable$State;I)Z"⟩, 1) := ⟨⟨by decide +kernel, by decide +kernel⟩, List.mem_of_getElem? (i := 290) (by decide +kernel), List.mem_of_getElem? (i := 523) (by decide +kernel), List.mem_of_getElem? (i := 524) (by decide +kernel)⟩
theorem lw_p4 : lw_okq (⟨"TownTable$Mover", "go", "(LTownTable$Plan;LTownTable$State;I)V"⟩, 1) := ⟨⟨by decide +kernel, by decide +kernel⟩, List.mem_of_getElem? (i := 290) (by decide +kernel), List.mem_of_getElem? (i := 527) (by decide +kernel), List.mem_of_getElem? (i := 528) (by decide +kernel)⟩
theorem lw_p5 : lw_okq (⟨"TownTable", "foresee", "(I)V"⟩, 20) := ⟨⟨by decide +kernel, by decide +kernel⟩, List.mem_of_getElem? (i := 30) (by decide +kernel), List.mem_of_getElem? (i := 560) (by decide +kernel), List.mem_of_getElem? (i := 561) (by decide +kernel)⟩
theorem lw_p6 : lw_okq (⟨"TownTable", "passFuture", "()V"⟩, 20) := ⟨⟨by decide +kernel, by decide +kernel⟩, List.mem_of_getElem? (i := 30) (by decide +kernel), List.mem_of_getElem? (i := 568) (by decide +kernel), List.mem_of_getElem? (i := 569) (by decide +kernel)⟩
theorem lw_p7 : lw_okq (⟨"java/lang/Throwable", "fillInStackTrace", "(I)Ljava/lang/Throwable;"⟩, 6) := ⟨⟨by decide +kernel, by decide +kernel⟩, List.mem_of_getElem? (i := 648) (by decide +kernel), List.mem_of_getElem? (i := 646) (by decide +kernel), List.mem_of_getElem? (i := 647) (by decide +kernel)⟩
theorem lw_p8 : lw_okq (⟨"TownTable$Tape", "readNumber", "()V"⟩, 7) := ⟨⟨by decide +kernel, by decide +kernel⟩, List.mem_of_getElem? (i := 38) (by decide +kernel), List.mem_of_getElem? (i := 697) (by decide +kernel), List.mem_of_getElem? (i := 698) (by decide +kernel)⟩
theorem lw_p9 : lw_okq (⟨"TownTable$PlanReader", "readTable", "(LTownTable$Tape;LTownTable$Plan;)I"⟩, 2) := ⟨⟨by decide +kernel, by decide +kernel⟩, List.mem_of_getElem? (i := 73) (by decide +kernel), List.mem_of_getElem? (i := 812) (by decide +kernel), List.mem_of_getElem? (i := 813) (by decide +kernel)⟩
theorem lw_p10 : lw_okq (⟨"TownTable$PlanReader", "readLine", "(LTownTable$Tape;LTownTable$Plan;)I"⟩, 2) := ⟨⟨by decide +kernel, by decide +kernel⟩, List.mem_of_getElem? (i := 73) (by decide +kernel), List.mem_of_getElem? (i := 835) (by decide +kernel), List.mem_of_getElem? (i := 836) (by decide +kernel)⟩
theorem lw_p11 : lw_okq (⟨"TownTable$PlanReader", "readFigure", "(LTownTable$Tape;LTownTable$Plan;)I"⟩, 2) := ⟨⟨by decide +kernel, by decide +kernel⟩, List.mem_of_getElem? (i := 73) (by decide +kernel), List.mem_of_getElem? (i := 861) (by decide +kernel), List.mem_of_getElem? (i := 862) (by decide +kernel)⟩
theorem lw_p12 : lw_okq (⟨"TownTable$PlanReader", "readRow", "(LTownTable$Tape;[III)I"⟩, 2) := ⟨⟨by decide +kernel, by decide +kernel⟩, List.mem_of_getElem? (i := 73) (by decide +kernel), List.mem_of_getElem? (i := 865) (by decide +kernel), List.mem_of_getElem? (i := 866) (by decide +kernel)⟩
theorem lw_p13 : lw_okq (⟨"TownTable$PlanReader", "readLight", "(LTownTable$Tape;LTownTable$Plan;)I"⟩, 2) := ⟨⟨by decide +kernel, by decide +kernel⟩, List.mem_of_getElem? (i := 73) (by decide +kernel), List.mem_of_getElem? (i := 874) (by decide +kernel), List.mem_of_getElem? (i := 875) (by decide +kernel)⟩
theorem lw_p14 : lw_okq (⟨"TownTable$RuleReader", "beginPart", "(Z)V"⟩, 6) := ⟨⟨by decide +kernel, by decide +kernel⟩, List.mem_of_getElem? (i := 79) (by decide +kernel), List.mem_of_getElem? (i := 888) (by decide +kernel), List.mem_of_getElem? (i := 889) (by decide +kernel)⟩
theorem lw_p15 : lw_okq (⟨"TownTable$RuleReader", "isEnd", "(LTownTable$Tape;)Z"⟩, 6) := ⟨⟨by decide +kernel, by decide +kernel⟩, List.mem_of_getElem? (i := 79) (by decide +kernel), List.mem_of_getElem? (i := 893) (by decide +kernel), List.mem_of_getElem? (i := 894) (by decide +kernel)⟩
def lw_privs_1 : List (MethodName × Nat) := [(⟨"TownTable", "refuseAct", "()I"⟩, 20), (⟨"TownTable$Mover", "hurt", "(LTownTable$Plan;LTownTable$State;I)V"⟩, 1), (⟨"TownTable$Mover", "setValues", "(LTownTable$Plan;LTownTable$State;I)V"⟩, 1), (⟨"TownTable$Mover", "wantsToGo", "(LTownTable$Plan;LTownTable$State;I)Z"⟩, 1), (⟨"TownTable$Mover", "go", "(LTownTable$Plan;LTownTable$State;I)V"⟩, 1), (⟨"TownTable", "foresee", "(I)V"⟩, 20), (⟨"TownTable", "passFuture", "()V"⟩, 20), (⟨"java/lang/Throwable", "fillInStackTrace", "(I)Ljava/lang/Throwable;"⟩, 6), (⟨"TownTable$Tape", "readNumber", "()V"⟩, 7), (⟨"TownTable$PlanReader", "readTable", "(LTownTable$Tape;LTownTable$Plan;)I"⟩, 2), (⟨"TownTable$PlanReader", "readLine", "(LTownTable$Tape;LTownTable$Plan;)I"⟩, 2), (⟨"TownTable$PlanReader", "readFigure", "(LTownTable$Tape;LTownTable$Plan;)I"⟩, 2), (⟨"TownTable$PlanReader", "readRow", "(LTownTable$Tape;[III)I"⟩, 2), (⟨"TownTable$PlanReader", "readLight", "(LTownTable$Tape;LTownTable$Plan;)I"⟩, 2), (⟨"TownTable$RuleReader", "beginPart", "(Z)V"⟩, 6), (⟨"TownTable$RuleReader", "isEnd", "(LTownTable$Tape;)Z"⟩, 6)]
theorem lw_r1 : ∀ q ∈ lw_privs_1, lw_okq q := List.forall_mem_cons.mpr ⟨lw_p0, List.forall_mem_cons.mpr ⟨lw_p1, List.forall_mem_cons.mpr ⟨lw_p2, List.forall_mem_cons.mpr ⟨lw_p3, List.forall_mem_cons.mpr ⟨lw_p4, List.forall_mem_cons.mpr ⟨lw_p5, List.forall_mem_cons.mpr ⟨lw_p6, List.forall_mem_cons.mpr ⟨lw_p7, List.forall_mem_cons.mpr ⟨lw_p8, List.forall_mem_cons.mpr ⟨lw_p9, List.forall_mem_cons.mpr ⟨lw_p10, List.forall_mem_cons.mpr ⟨lw_p11, List.forall_mem_cons.mpr ⟨lw_p12, List.forall_mem_cons.mpr ⟨lw_p13, List.forall_mem_cons.mpr ⟨lw_p14, List.forall_mem_cons.mpr ⟨lw_p15, fun _ h => absurd h List.not_mem_nil⟩⟩⟩⟩⟩⟩⟩⟩⟩⟩⟩⟩⟩⟩⟩⟩
theorem lw_p16 : lw_okq (⟨"TownTable$RuleReader", "readPart", "(LTownTable$Tape;LTownTable$Rule;Z)I"⟩, 6) := ⟨⟨by decide +kernel, by decide +kernel⟩, List.mem_of_getElem? (i := 79) (by decide +kernel), List.mem_of_getElem? (i := 898) (by decide +kernel), List.mem_of_getElem? (i := 899) (by decide +kernel)⟩
theorem lw_p17 : lw_okq (⟨"TownTable$RuleReader", "push", "(I)V"⟩, 6) := ⟨⟨by decide +kernel, by decide +kernel⟩, List.mem_of_getElem? (i := 79) (by decide +kernel), List.mem_of_getElem? (i := 902) (by decide +kernel), List.mem_of_getElem? (i := 903) (by decide +kernel)⟩
theorem lw_p18 : lw_okq (⟨"TownTable$RuleReader", "readNumber", "(LTownTable$Tape;LTownTable$Rule;)I"⟩, 6) := ⟨⟨by decide +kernel, by decide +kernel⟩, List.mem_of_getElem? (i := 79) (by decide +kernel), List.mem_of_getElem? (i := 906) (by decide +kernel), List.mem_of_getElem? (i := 907) (by decide +kernel)⟩
theorem lw_p19 : lw_okq (⟨"TownTable$RuleReader", "readWord", "(LTownTable$Tape;LTownTable$Rule;Z)I"⟩, 6) := ⟨⟨by decide +kernel, by decide +kernel⟩, List.mem_of_getElem? (i := 79) (by decide +kernel), List.mem_of_getElem? (i := 915) (by decide +kernel), List.mem_of_getElem? (i := 916) (by decide +kernel)⟩
theorem lw_p20 : lw_okq (⟨"TownTable$RuleReader", "readOperator", "(LTownTable$Tape;LTownTable$Rule;)I"⟩, 6) := ⟨⟨by decide +kernel, by decide +kernel⟩, List.mem_of_getElem? (i := 79) (by decide +kernel), List.mem_of_getElem? (i := 930) (by decide +kernel), List.mem_of_getElem? (i := 931) (by decide +kernel)⟩
theorem lw_p21 : lw_okq (⟨"TownTable$RuleReader", "release", "(LTownTable$Rule;I)V"⟩, 6) := ⟨⟨by decide +kernel, by decide +kernel⟩, List.mem_of_getElem? (i := 79) (by decide +kernel), List.mem_of_getElem? (i := 934) (by decide +kernel), List.mem_of_getElem? (i := 935) (by decide +kernel)⟩
theorem lw_p22 : lw_okq (⟨"TownTable", "checkFigure", "(I)V"⟩, 20) := ⟨⟨by decide +kernel, by decide +kernel⟩, List.mem_of_getElem? (i := 30) (by decide +kernel), List.mem_of_getElem? (i := 1014) (by decide +kernel), List.mem_of_getElem? (i := 1015) (by decide +kernel)⟩
theorem lw_p23 : lw_okq (⟨"TownTable", "checkCell", "(I)V"⟩, 20) := ⟨⟨by decide +kernel, by decide +kernel⟩, List.mem_of_getElem? (i := 30) (by decide +kernel), List.mem_of_getElem? (i := 1029) (by decide +kernel), List.mem_of_getElem? (i := 1030) (by decide +kernel)⟩
theorem lw_p24 : lw_okq (⟨"TownTable", "pay", "(I)V"⟩, 20) := ⟨⟨by decide +kernel, by decide +kernel⟩, List.mem_of_getElem? (i := 30) (by decide +kernel), List.mem_of_getElem? (i := 1054) (by decide +kernel), List.mem_of_getElem? (i := 1055) (by decide +kernel)⟩
theorem lw_p25 : lw_okq (⟨"TownTable", "addMeetings", "()V"⟩, 20) := ⟨⟨by decide +kernel, by decide +kernel⟩, List.mem_of_getElem? (i := 30) (by decide +kernel), List.mem_of_getElem? (i := 1156) (by decide +kernel), List.mem_of_getElem? (i := 1157) (by decide +kernel)⟩
theorem lw_p26 : lw_okq (⟨"TownTable", "noneMeets", "(I)Z"⟩, 20) := ⟨⟨by decide +kernel, by decide +kernel⟩, List.mem_of_getElem? (i := 30) (by decide +kernel), List.mem_of_getElem? (i := 1160) (by decide +kernel), List.mem_of_getElem? (i := 1161) (by decide +kernel)⟩
theorem lw_p27 : lw_okq (⟨"TownTable$Seating", "measureAll", "(LTownTable$Plan;LTownTable$State;LTownTable$Ways;)V"⟩, 5) := ⟨⟨by decide +kernel, by decide +kernel⟩, List.mem_of_getElem? (i := 315) (by decide +kernel), List.mem_of_getElem? (i := 1175) (by decide +kernel), List.mem_of_getElem? (i := 1176) (by decide +kernel)⟩
theorem lw_p28 : lw_okq (⟨"TownTable$Seating", "bestFrom", "(LTownTable$Plan;II)I"⟩, 5) := ⟨⟨by decide +kernel, by decide +kernel⟩, List.mem_of_getElem? (i := 315) (by decide +kernel), List.mem_of_getElem? (i := 1181) (by decide +kernel), List.mem_of_getElem? (i := 1182) (by decide +kernel)⟩
theorem lw_p29 : lw_okq (⟨"TownTable$Seating", "worthAt", "(III)I"⟩, 5) := ⟨⟨by decide +kernel, by decide +kernel⟩, List.mem_of_getElem? (i := 315) (by decide +kernel), List.mem_of_getElem? (i := 1185) (by decide +kernel), List.mem_of_getElem? (i := 1186) (by decide +kernel)⟩
theorem lw_p30 : lw_okq (⟨"TownTable$Seating", "choose", "(LTownTable$Plan;)V"⟩, 5) := ⟨⟨by decide +kernel, by decide +kernel⟩, List.mem_of_getElem? (i := 315) (by decide +kernel), List.mem_of_getElem? (i := 1190) (by decide +kernel), List.mem_of_getElem? (i := 1191) (by decide +kernel)⟩
theorem lw_p31 : lw_okq (⟨"TownTable$Guesses", "addPlaces", "(LTownTable$Plan;LTownTable$Mover;)V"⟩, 4) := ⟨⟨by decide +kernel, by decide +kernel⟩, List.mem_of_getElem? (i := 340) (by decide +kernel), List.mem_of_getElem? (i := 1238) (by decide +kernel), List.mem_of_getElem? (i := 1239) (by decide +kernel)⟩
def lw_privs_2 : List (MethodName × Nat) := [(⟨"TownTable$RuleReader", "readPart", "(LTownTable$Tape;LTownTable$Rule;Z)I"⟩, 6), (⟨"TownTable$RuleReader", "push", "(I)V"⟩, 6), (⟨"TownTable$RuleReader", "readNumber", "(LTownTable$Tape;LTownTable$Rule;)I"⟩, 6), (⟨"TownTable$RuleReader", "readWord", "(LTownTable$Tape;LTownTable$Rule;Z)I"⟩, 6), (⟨"TownTable$RuleReader", "readOperator", "(LTownTable$Tape;LTownTable$Rule;)I"⟩, 6), (⟨"TownTable$RuleReader", "release", "(LTownTable$Rule;I)V"⟩, 6), (⟨"TownTable", "checkFigure", "(I)V"⟩, 20), (⟨"TownTable", "checkCell", "(I)V"⟩, 20), (⟨"TownTable", "pay", "(I)V"⟩, 20), (⟨"TownTable", "addMeetings", "()V"⟩, 20), (⟨"TownTable", "noneMeets", "(I)Z"⟩, 20), (⟨"TownTable$Seating", "measureAll", "(LTownTable$Plan;LTownTable$State;LTownTable$Ways;)V"⟩, 5), (⟨"TownTable$Seating", "bestFrom", "(LTownTable$Plan;II)I"⟩, 5), (⟨"TownTable$Seating", "worthAt", "(III)I"⟩, 5), (⟨"TownTable$Seating", "choose", "(LTownTable$Plan;)V"⟩, 5), (⟨"TownTable$Guesses", "addPlaces", "(LTownTable$Plan;LTownTable$Mover;)V"⟩, 4)]
theorem lw_r2 : ∀ q ∈ lw_privs_2, lw_okq q := List.forall_mem_cons.mpr ⟨lw_p16, List.forall_mem_cons.mpr ⟨lw_p17, List.forall_mem_cons.mpr ⟨lw_p18, List.forall_mem_cons.mpr ⟨lw_p19, List.forall_mem_cons.mpr ⟨lw_p20, List.forall_mem_cons.mpr ⟨lw_p21, List.forall_mem_cons.mpr ⟨lw_p22, List.forall_mem_cons.mpr ⟨lw_p23, List.forall_mem_cons.mpr ⟨lw_p24, List.forall_mem_cons.mpr ⟨lw_p25, List.forall_mem_cons.mpr ⟨lw_p26, List.forall_mem_cons.mpr ⟨lw_p27, List.forall_mem_cons.mpr ⟨lw_p28, List.forall_mem_cons.mpr ⟨lw_p29, List.forall_mem_cons.mpr ⟨lw_p30, List.forall_mem_cons.mpr ⟨lw_p31, fun _ h => absurd h List.not_mem_nil⟩⟩⟩⟩⟩⟩⟩⟩⟩⟩⟩⟩⟩⟩⟩⟩
theorem lw_p32 : lw_okq (⟨"TownTable", "play", "(III)V"⟩, 20) := ⟨⟨by decide +kernel, by decide +kernel⟩, List.mem_of_getElem? (i := 30) (by decide +kernel), List.mem_of_getElem? (i := 1265) (by decide +kernel), List.mem_of_getElem? (i := 1266) (by decide +kernel)⟩
theorem lw_p33 : lw_okq (⟨"TownTable", "rests", "(I)Z"⟩, 20) := ⟨⟨by decide +kernel, by decide +kernel⟩, List.mem_of_getElem? (i := 30) (by decide +kernel), List.mem_of_getElem? (i := 1269) (by decide +kernel), List.mem_of_getElem? (i := 1270) (by decide +kernel)⟩
theorem lw_p34 : lw_okq (⟨"TownTable", "drawFate", "()V"⟩, 20) := ⟨⟨by decide +kernel, by decide +kernel⟩, List.mem_of_getElem? (i := 30) (by decide +kernel), List.mem_of_getElem? (i := 1280) (by decide +kernel), List.mem_of_getElem? (i := 1281) (by decide +kernel)⟩
theorem lw_p35 : lw_okq (⟨"TownTable", "draw", "(I)I"⟩, 20) := ⟨⟨by decide +kernel, by decide +kernel⟩, List.mem_of_getElem? (i := 30) (by decide +kernel), List.mem_of_getElem? (i := 1284) (by decide +kernel), List.mem_of_getElem? (i := 1285) (by decide +kernel)⟩
theorem lw_p36 : lw_okq (⟨"TownTable", "busiest", "(I)I"⟩, 20) := ⟨⟨by decide +kernel, by decide +kernel⟩, List.mem_of_getElem? (i := 30) (by decide +kernel), List.mem_of_getElem? (i := 1300) (by decide +kernel), List.mem_of_getElem? (i := 1301) (by decide +kernel)⟩
theorem lw_p37 : lw_okq (⟨"TownTable", "sorest", "(I)I"⟩, 20) := ⟨⟨by decide +kernel, by decide +kernel⟩, List.mem_of_getElem? (i := 30) (by decide +kernel), List.mem_of_getElem? (i := 1304) (by decide +kernel), List.mem_of_getElem? (i := 1305) (by decide +kernel)⟩
theorem lw_p38 : lw_okq (⟨"TownTable", "alone", "(I)I"⟩, 20) := ⟨⟨by decide +kernel, by decide +kernel⟩, List.mem_of_getElem? (i := 30) (by decide +kernel), List.mem_of_getElem? (i := 1308) (by decide +kernel), List.mem_of_getElem? (i := 1309) (by decide +kernel)⟩
theorem lw_p39 : lw_okq (⟨"TownTable", "stuck", "(I)I"⟩, 20) := ⟨⟨by decide +kernel, by decide +kernel⟩, List.mem_of_getElem? (i := 30) (by decide +kernel), List.mem_of_getElem? (i := 1317) (by decide +kernel), List.mem_of_getElem? (i := 1318) (by decide +kernel)⟩
theorem lw_p40 : lw_okq (⟨"TownTableModel", "lays", "(I)V"⟩, 71) := ⟨⟨by decide +kernel, by decide +kernel⟩, List.mem_of_getElem? (i := 1343) (by decide +kernel), List.mem_of_getElem? (i := 1572) (by decide +kernel), List.mem_of_getElem? (i := 1573) (by decide +kernel)⟩
theorem lw_p41 : lw_okq (⟨"TownTableModel", "right", "(ZI)Z"⟩, 71) := ⟨⟨by decide +kernel, by decide +kernel⟩, List.mem_of_getElem? (i := 1343) (by decide +kernel), List.mem_of_getElem? (i := 1580) (by decide +kernel), List.mem_of_getElem? (i := 1581) (by decide +kernel)⟩
theorem lw_p42 : lw_okq (⟨"TownTableModel", "goes", "()V"⟩, 71) := ⟨⟨by decide +kernel, by decide +kernel⟩, List.mem_of_getElem? (i := 1343) (by decide +kernel), List.mem_of_getElem? (i := 1584) (by decide +kernel), List.mem_of_getElem? (i := 1585) (by decide +kernel)⟩
theorem lw_p43 : lw_okq (⟨"TownTableModel", "byteAt", "(I)I"⟩, 71) := ⟨⟨by decide +kernel, by decide +kernel⟩, List.mem_of_getElem? (i := 1343) (by decide +kernel), List.mem_of_getElem? (i := 1588) (by decide +kernel), List.mem_of_getElem? (i := 1589) (by decide +kernel)⟩
theorem lw_p44 : lw_okq (⟨"TownTableModel", "knownWord", "()I"⟩, 71) := ⟨⟨by decide +kernel, by decide +kernel⟩, List.mem_of_getElem? (i := 1343) (by decide +kernel), List.mem_of_getElem? (i := 1598) (by decide +kernel), List.mem_of_getElem? (i := 1599) (by decide +kernel)⟩
theorem lw_p45 : lw_okq (⟨"TownTableModel", "number", "(II)I"⟩, 71) := ⟨⟨by decide +kernel, by decide +kernel⟩, List.mem_of_getElem? (i := 1343) (by decide +kernel), List.mem_of_getElem? (i := 1609) (by decide +kernel), List.mem_of_getElem? (i := 1610) (by decide +kernel)⟩
theorem lw_p46 : lw_okq (⟨"TownTableModel", "isGood", "()Z"⟩, 71) := ⟨⟨by decide +kernel, by decide +kernel⟩, List.mem_of_getElem? (i := 1343) (by decide +kernel), List.mem_of_getElem? (i := 1613) (by decide +kernel), List.mem_of_getElem? (i := 1614) (by decide +kernel)⟩
theorem lw_p47 : lw_okq (⟨"TownTableModel", "wrong", "(I)V"⟩, 71) := ⟨⟨by decide +kernel, by decide +kernel⟩, List.mem_of_getElem? (i := 1343) (by decide +kernel), List.mem_of_getElem? (i := 1617) (by decide +kernel), List.mem_of_getElem? (i := 1618) (by decide +kernel)⟩
def lw_privs_3 : List (MethodName × Nat) := [(⟨"TownTable", "play", "(III)V"⟩, 20), (⟨"TownTable", "rests", "(I)Z"⟩, 20), (⟨"TownTable", "drawFate", "()V"⟩, 20), (⟨"TownTable", "draw", "(I)I"⟩, 20), (⟨"TownTable", "busiest", "(I)I"⟩, 20), (⟨"TownTable", "sorest", "(I)I"⟩, 20), (⟨"TownTable", "alone", "(I)I"⟩, 20), (⟨"TownTable", "stuck", "(I)I"⟩, 20), (⟨"TownTableModel", "lays", "(I)V"⟩, 71), (⟨"TownTableModel", "right", "(ZI)Z"⟩, 71), (⟨"TownTableModel", "goes", "()V"⟩, 71), (⟨"TownTableModel", "byteAt", "(I)I"⟩, 71), (⟨"TownTableModel", "knownWord", "()I"⟩, 71), (⟨"TownTableModel", "number", "(II)I"⟩, 71), (⟨"TownTableModel", "isGood", "()Z"⟩, 71), (⟨"TownTableModel", "wrong", "(I)V"⟩, 71)]
theorem lw_r3 : ∀ q ∈ lw_privs_3, lw_okq q := List.forall_mem_cons.mpr ⟨lw_p32, List.forall_mem_cons.mpr ⟨lw_p33, List.forall_mem_cons.mpr ⟨lw_p34, List.forall_mem_cons.mpr ⟨lw_p35, List.forall_mem_cons.mpr ⟨lw_p36, List.forall_mem_cons.mpr ⟨lw_p37, List.forall_mem_cons.mpr ⟨lw_p38, List.forall_mem_cons.mpr ⟨lw_p39, List.forall_mem_cons.mpr ⟨lw_p40, List.forall_mem_cons.mpr ⟨lw_p41, List.forall_mem_cons.mpr ⟨lw_p42, List.forall_mem_cons.mpr ⟨lw_p43, List.forall_mem_cons.mpr ⟨lw_p44, List.forall_mem_cons.mpr ⟨lw_p45, List.forall_mem_cons.mpr ⟨lw_p46, List.forall_mem_cons.mpr ⟨lw_p47, fun _ h => absurd h List.not_mem_nil⟩⟩⟩⟩⟩⟩⟩⟩⟩⟩⟩⟩⟩⟩⟩⟩
theorem lw_p48 : lw_okq (⟨"TownTableModel", "isSign", "(I)Z"⟩, 71) := ⟨⟨by decide +kernel, by decide +kernel⟩, List.mem_of_getElem? (i := 1343) (by decide +kernel), List.mem_of_getElem? (i := 1621) (by decide +kernel), List.mem_of_getElem? (i := 1622) (by decide +kernel)⟩
theorem lw_p49 : lw_okq (⟨"TownTableModel", "need", "(Z)V"⟩, 71) := ⟨⟨by decide +kernel, by decide +kernel⟩, List.mem_of_getElem? (i := 1343) (by decide +kernel), List.mem_of_getElem? (i := 1625) (by decide +kernel), List.mem_of_getElem? (i := 1626) (by decide +kernel)⟩
theorem lw_p50 : lw_okq (⟨"TownTableModel", "line", "()V"⟩, 71) := ⟨⟨by decide +kernel, by decide +kernel⟩, List.mem_of_getElem? (i := 1343) (by decide +kernel), List.mem_of_getElem? (i := 1629) (by decide +kernel), List.mem_of_getElem? (i := 1630) (by decide +kernel)⟩
theorem lw_p51 : lw_okq (⟨"TownTableModel", "begins", "(ZZ)Z"⟩, 71) := ⟨⟨by decide +kernel, by decide +kernel⟩, List.mem_of_getElem? (i := 1343) (by decide +kernel), List.mem_of_getElem? (i := 1633) (by decide +kernel), List.mem_of_getElem? (i := 1634) (by decide +kernel)⟩
theorem lw_p52 : lw_okq (⟨"TownTableModel", "readsWall", "()V"⟩, 71) := ⟨⟨by decide +kernel, by decide +kernel⟩, List.mem_of_getElem? (i := 1343) (by decide +kernel), List.mem_of_getElem? (i := 1637) (by decide +kernel), List.mem_of_getElem? (i := 1638) (by decide +kernel)⟩
theorem lw_p53 : lw_okq (⟨"TownTableModel", "cellHere", "()I"⟩, 71) := ⟨⟨by decide +kernel, by decide +kernel⟩, List.mem_of_getElem? (i := 1343) (by decide +kernel), List.mem_of_getElem? (i := 1641) (by decide +kernel), List.mem_of_getElem? (i := 1642) (by decide +kernel)⟩
theorem lw_p54 : lw_okq (⟨"TownTableModel", "readsFigure", "()V"⟩, 71) := ⟨⟨by decide +kernel, by decide +kernel⟩, List.mem_of_getElem? (i := 1343) (by decide +kernel), List.mem_of_getElem? (i := 1645) (by decide +kernel), List.mem_of_getElem? (i := 1646) (by decide +kernel)⟩
theorem lw_p55 : lw_okq (⟨"TownTableModel", "readsSeat", "()V"⟩, 71) := ⟨⟨by decide +kernel, by decide +kernel⟩, List.mem_of_getElem? (i := 1343) (by decide +kernel), List.mem_of_getElem? (i := 1649) (by decide +kernel), List.mem_of_getElem? (i := 1650) (by decide +kernel)⟩
theorem lw_p56 : lw_okq (⟨"TownTableModel", "readsLight", "()V"⟩, 71) := ⟨⟨by decide +kernel, by decide +kernel⟩, List.mem_of_getElem? (i := 1343) (by decide +kernel), List.mem_of_getElem? (i := 1653) (by decide +kernel), List.mem_of_getElem? (i := 1654) (by decide +kernel)⟩
theorem lw_p57 : lw_okq (⟨"TownTableModel", "expression", "(II)V"⟩, 71) := ⟨⟨by decide +kernel, by decide +kernel⟩, List.mem_of_getElem? (i := 1343) (by decide +kernel), List.mem_of_getElem? (i := 1657) (by decide +kernel), List.mem_of_getElem? (i := 1658) (by decide +kernel)⟩
theorem lw_p58 : lw_okq (⟨"TownTableModel", "deeper", "()V"⟩, 71) := ⟨⟨by decide +kernel, by decide +kernel⟩, List.mem_of_getElem? (i := 1343) (by decide +kernel), List.mem_of_getElem? (i := 1661) (by decide +kernel), List.mem_of_getElem? (i := 1662) (by decide +kernel)⟩
theorem lw_p59 : lw_okq (⟨"TownTableModel", "operand", "(Z)V"⟩, 71) := ⟨⟨by decide +kernel, by decide +kernel⟩, List.mem_of_getElem? (i := 1343) (by decide +kernel), List.mem_of_getElem? (i := 1665) (by decide +kernel), List.mem_of_getElem? (i := 1666) (by decide +kernel)⟩
theorem lw_p60 : lw_okq (⟨"TownTableModel", "waitsFor", "(I)V"⟩, 71) := ⟨⟨by decide +kernel, by decide +kernel⟩, List.mem_of_getElem? (i := 1343) (by decide +kernel), List.mem_of_getElem? (i := 1669) (by decide +kernel), List.mem_of_getElem? (i := 1670) (by decide +kernel)⟩
theorem lw_p61 : lw_okq (⟨"TownTableModel", "part", "()V"⟩, 71) := ⟨⟨by decide +kernel, by decide +kernel⟩, List.mem_of_getElem? (i := 1343) (by decide +kernel), List.mem_of_getElem? (i := 1673) (by decide +kernel), List.mem_of_getElem? (i := 1674) (by decide +kernel)⟩
theorem lw_p62 : lw_okq (⟨"TownTableModel", "puts", "(I)V"⟩, 71) := ⟨⟨by decide +kernel, by decide +kernel⟩, List.mem_of_getElem? (i := 1343) (by decide +kernel), List.mem_of_getElem? (i := 1677) (by decide +kernel), List.mem_of_getElem? (i := 1678) (by decide +kernel)⟩
theorem lw_p63 : lw_okq (⟨"TownTableModel", "drops", "(I)V"⟩, 71) := ⟨⟨by decide +kernel, by decide +kernel⟩, List.mem_of_getElem? (i := 1343) (by decide +kernel), List.mem_of_getElem? (i := 1681) (by decide +kernel), List.mem_of_getElem? (i := 1682) (by decide +kernel)⟩
def lw_privs_4 : List (MethodName × Nat) := [(⟨"TownTableModel", "isSign", "(I)Z"⟩, 71), (⟨"TownTableModel", "need", "(Z)V"⟩, 71), (⟨"TownTableModel", "line", "()V"⟩, 71), (⟨"TownTableModel", "begins", "(ZZ)Z"⟩, 71), (⟨"TownTableModel", "readsWall", "()V"⟩, 71), (⟨"TownTableModel", "cellHere", "()I"⟩, 71), (⟨"TownTableModel", "readsFigure", "()V"⟩, 71), (⟨"TownTableModel", "readsSeat", "()V"⟩, 71), (⟨"TownTableModel", "readsLight", "()V"⟩, 71), (⟨"TownTableModel", "expression", "(II)V"⟩, 71), (⟨"TownTableModel", "deeper", "()V"⟩, 71), (⟨"TownTableModel", "operand", "(Z)V"⟩, 71), (⟨"TownTableModel", "waitsFor", "(I)V"⟩, 71), (⟨"TownTableModel", "part", "()V"⟩, 71), (⟨"TownTableModel", "puts", "(I)V"⟩, 71), (⟨"TownTableModel", "drops", "(I)V"⟩, 71)]
theorem lw_r4 : ∀ q ∈ lw_privs_4, lw_okq q := List.forall_mem_cons.mpr ⟨lw_p48, List.forall_mem_cons.mpr ⟨lw_p49, List.forall_mem_cons.mpr ⟨lw_p50, List.forall_mem_cons.mpr ⟨lw_p51, List.forall_mem_cons.mpr ⟨lw_p52, List.forall_mem_cons.mpr ⟨lw_p53, List.forall_mem_cons.mpr ⟨lw_p54, List.forall_mem_cons.mpr ⟨lw_p55, List.forall_mem_cons.mpr ⟨lw_p56, List.forall_mem_cons.mpr ⟨lw_p57, List.forall_mem_cons.mpr ⟨lw_p58, List.forall_mem_cons.mpr ⟨lw_p59, List.forall_mem_cons.mpr ⟨lw_p60, List.forall_mem_cons.mpr ⟨lw_p61, List.forall_mem_cons.mpr ⟨lw_p62, List.forall_mem_cons.mpr ⟨lw_p63, fun _ h => absurd h List.not_mem_nil⟩⟩⟩⟩⟩⟩⟩⟩⟩⟩⟩⟩⟩⟩⟩⟩
theorem lw_p64 : lw_okq (⟨"TownTableModel", "isOpened", "()Z"⟩, 71) := ⟨⟨by decide +kernel, by decide +kernel⟩, List.mem_of_getElem? (i := 1343) (by decide +kernel), List.mem_of_getElem? (i := 1691) (by decide +kernel), List.mem_of_getElem? (i := 1692) (by decide +kernel)⟩
theorem lw_p65 : lw_okq (⟨"TownTableModel", "closes", "()V"⟩, 71) := ⟨⟨by decide +kernel, by decide +kernel⟩, List.mem_of_getElem? (i := 1343) (by decide +kernel), List.mem_of_getElem? (i := 1695) (by decide +kernel), List.mem_of_getElem? (i := 1696) (by decide +kernel)⟩
theorem lw_p66 : lw_okq (⟨"TownTableModel", "copies", "([I[I)V"⟩, 71) := ⟨⟨by decide +kernel, by decide +kernel⟩, List.mem_of_getElem? (i := 1343) (by decide +kernel), List.mem_of_getElem? (i := 1699) (by decide +kernel), List.mem_of_getElem? (i := 1700) (by decide +kernel)⟩
theorem lw_p67 : lw_okq (⟨"TownTableModel", "lightAt", "(I)I"⟩, 71) := ⟨⟨by decide +kernel, by decide +kernel⟩, List.mem_of_getElem? (i := 1343) (by decide +kernel), List.mem_of_getElem? (i := 1718) (by decide +kernel), List.mem_of_getElem? (i := 1719) (by decide +kernel)⟩
theorem lw_p68 : lw_okq (⟨"TownTableModel", "isDull", "(I)Z"⟩, 71) := ⟨⟨by decide +kernel, by decide +kernel⟩, List.mem_of_getElem? (i := 1343) (by decide +kernel), List.mem_of_getElem? (i := 1722) (by decide +kernel), List.mem_of_getElem? (i := 1723) (by decide +kernel)⟩
theorem lw_p69 : lw_okq (⟨"TownTableModel", "sumOf", "(III)I"⟩, 71) := ⟨⟨by decide +kernel, by decide +kernel⟩, List.mem_of_getElem? (i := 1343) (by decide +kernel), List.mem_of_getElem? (i := 1726) (by decide +kernel), List.mem_of_getElem? (i := 1727) (by decide +kernel)⟩
theorem lw_p70 : lw_okq (⟨"TownTableModel", "parts", "()I"⟩, 71) := ⟨⟨by decide +kernel, by decide +kernel⟩, List.mem_of_getElem? (i := 1343) (by decide +kernel), List.mem_of_getElem? (i := 1730) (by decide +kernel), List.mem_of_getElem? (i := 1731) (by decide +kernel)⟩
theorem lw_p71 : lw_okq (⟨"TownTableModel", "laysFar", "(I)V"⟩, 71) := ⟨⟨by decide +kernel, by decide +kernel⟩, List.mem_of_getElem? (i := 1343) (by decide +kernel), List.mem_of_getElem? (i := 1734) (by decide +kernel), List.mem_of_getElem? (i := 1735) (by decide +kernel)⟩
theorem lw_p72 : lw_okq (⟨"TownTableModel", "beside", "(II)I"⟩, 71) := ⟨⟨by decide +kernel, by decide +kernel⟩, List.mem_of_getElem? (i := 1343) (by decide +kernel), List.mem_of_getElem? (i := 1738) (by decide +kernel), List.mem_of_getElem? (i := 1739) (by decide +kernel)⟩
theorem lw_p73 : lw_okq (⟨"TownTableModel", "heldOnes", "()I"⟩, 71) := ⟨⟨by decide +kernel, by decide +kernel⟩, List.mem_of_getElem? (i := 1343) (by decide +kernel), List.mem_of_getElem? (i := 1742) (by decide +kernel), List.mem_of_getElem? (i := 1743) (by decide +kernel)⟩
theorem lw_p74 : lw_okq (⟨"TownTableModel", "isFigure", "(I)Z"⟩, 71) := ⟨⟨by decide +kernel, by decide +kernel⟩, List.mem_of_getElem? (i := 1343) (by decide +kernel), List.mem_of_getElem? (i := 1750) (by decide +kernel), List.mem_of_getElem? (i := 1751) (by decide +kernel)⟩
theorem lw_p75 : lw_okq (⟨"TownTableModel", "isWhat", "(II)Z"⟩, 71) := ⟨⟨by decide +kernel, by decide +kernel⟩, List.mem_of_getElem? (i := 1343) (by decide +kernel), List.mem_of_getElem? (i := 1754) (by decide +kernel), List.mem_of_getElem? (i := 1755) (by decide +kernel)⟩
theorem lw_p76 : lw_okq (⟨"TownTableModel", "stepOf", "(II)I"⟩, 71) := ⟨⟨by decide +kernel, by decide +kernel⟩, List.mem_of_getElem? (i := 1343) (by decide +kernel), List.mem_of_getElem? (i := 1758) (by decide +kernel), List.mem_of_getElem? (i := 1759) (by decide +kernel)⟩
theorem lw_p77 : lw_okq (⟨"TownTableModel", "withIt", "(II)I"⟩, 71) := ⟨⟨by decide +kernel, by decide +kernel⟩, List.mem_of_getElem? (i := 1343) (by decide +kernel), List.mem_of_getElem? (i := 1762) (by decide +kernel), List.mem_of_getElem? (i := 1763) (by decide +kernel)⟩
theorem lw_p78 : lw_okq (⟨"TownTableModel", "atCell", "(II)I"⟩, 71) := ⟨⟨by decide +kernel, by decide +kernel⟩, List.mem_of_getElem? (i := 1343) (by decide +kernel), List.mem_of_getElem? (i := 1766) (by decide +kernel), List.mem_of_getElem? (i := 1767) (by decide +kernel)⟩
theorem lw_p79 : lw_okq (⟨"TownTableModel", "isCell", "(I)Z"⟩, 71) := ⟨⟨by decide +kernel, by decide +kernel⟩, List.mem_of_getElem? (i := 1343) (by decide +kernel), List.mem_of_getElem? (i := 1777) (by decide +kernel), List.mem_of_getElem? (i := 1778) (by decide +kernel)⟩
def lw_privs_5 : List (MethodName × Nat) := [(⟨"TownTableModel", "isOpened", "()Z"⟩, 71), (⟨"TownTableModel", "closes", "()V"⟩, 71), (⟨"TownTableModel", "copies", "([I[I)V"⟩, 71), (⟨"TownTableModel", "lightAt", "(I)I"⟩, 71), (⟨"TownTableModel", "isDull", "(I)Z"⟩, 71), (⟨"TownTableModel", "sumOf", "(III)I"⟩, 71), (⟨"TownTableModel", "parts", "()I"⟩, 71), (⟨"TownTableModel", "laysFar", "(I)V"⟩, 71), (⟨"TownTableModel", "beside", "(II)I"⟩, 71), (⟨"TownTableModel", "heldOnes", "()I"⟩, 71), (⟨"TownTableModel", "isFigure", "(I)Z"⟩, 71), (⟨"TownTableModel", "isWhat", "(II)Z"⟩, 71), (⟨"TownTableModel", "stepOf", "(II)I"⟩, 71), (⟨"TownTableModel", "withIt", "(II)I"⟩, 71), (⟨"TownTableModel", "atCell", "(II)I"⟩, 71), (⟨"TownTableModel", "isCell", "(I)Z"⟩, 71)]
theorem lw_r5 : ∀ q ∈ lw_privs_5, lw_okq q := List.forall_mem_cons.mpr ⟨lw_p64, List.forall_mem_cons.mpr ⟨lw_p65, List.forall_mem_cons.mpr ⟨lw_p66, List.forall_mem_cons.mpr ⟨lw_p67, List.forall_mem_cons.mpr ⟨lw_p68, List.forall_mem_cons.mpr ⟨lw_p69, List.forall_mem_cons.mpr ⟨lw_p70, List.forall_mem_cons.mpr ⟨lw_p71, List.forall_mem_cons.mpr ⟨lw_p72, List.forall_mem_cons.mpr ⟨lw_p73, List.forall_mem_cons.mpr ⟨lw_p74, List.forall_mem_cons.mpr ⟨lw_p75, List.forall_mem_cons.mpr ⟨lw_p76, List.forall_mem_cons.mpr ⟨lw_p77, List.forall_mem_cons.mpr ⟨lw_p78, List.forall_mem_cons.mpr ⟨lw_p79, fun _ h => absurd h List.not_mem_nil⟩⟩⟩⟩⟩⟩⟩⟩⟩⟩⟩⟩⟩⟩⟩⟩
theorem lw_p80 : lw_okq (⟨"TownTableModel", "seenFrom", "(I)I"⟩, 71) := ⟨⟨by decide +kernel, by decide +kernel⟩, List.mem_of_getElem? (i := 1343) (by decide +kernel), List.mem_of_getElem? (i := 1781) (by decide +kernel), List.mem_of_getElem? (i := 1782) (by decide +kernel)⟩
theorem lw_p81 : lw_okq (⟨"TownTableModel", "refuses", "(I)I"⟩, 71) := ⟨⟨by decide +kernel, by decide +kernel⟩, List.mem_of_getElem? (i := 1343) (by decide +kernel), List.mem_of_getElem? (i := 1789) (by decide +kernel), List.mem_of_getElem? (i := 1790) (by decide +kernel)⟩
theorem lw_p82 : lw_okq (⟨"TownTableModel", "keeps", "()V"⟩, 71) := ⟨⟨by decide +kernel, by decide +kernel⟩, List.mem_of_getElem? (i := 1343) (by decide +kernel), List.mem_of_getElem? (i := 1793) (by decide +kernel), List.mem_of_getElem? (i := 1794) (by decide +kernel)⟩
theorem lw_p83 : lw_okq (⟨"TownTableModel", "hourGoes", "(I)V"⟩, 71) := ⟨⟨by decide +kernel, by decide +kernel⟩, List.mem_of_getElem? (i := 1343) (by decide +kernel), List.mem_of_getElem? (i := 1797) (by decide +kernel), List.mem_of_getElem? (i := 1798) (by decide +kernel)⟩
theorem lw_p84 : lw_okq (⟨"TownTableModel", "figureGoes", "(II)V"⟩, 71) := ⟨⟨by decide +kernel, by decide +kernel⟩, List.mem_of_getElem? (i := 1343) (by decide +kernel), List.mem_of_getElem? (i := 1801) (by decide +kernel), List.mem_of_getElem? (i := 1802) (by decide +kernel)⟩
theorem lw_p85 : lw_okq (⟨"TownTableModel", "hurtsBy", "(II)I"⟩, 71) := ⟨⟨by decide +kernel, by decide +kernel⟩, List.mem_of_getElem? (i := 1343) (by decide +kernel), List.mem_of_getElem? (i := 1805) (by decide +kernel), List.mem_of_getElem? (i := 1806) (by decide +kernel)⟩
theorem lw_p86 : lw_okq (⟨"TownTableModel", "tells", "(II)V"⟩, 71) := ⟨⟨by decide +kernel, by decide +kernel⟩, List.mem_of_getElem? (i := 1343) (by decide +kernel), List.mem_of_getElem? (i := 1809) (by decide +kernel), List.mem_of_getElem? (i := 1810) (by decide +kernel)⟩
theorem lw_p87 : lw_okq (⟨"TownTableModel", "reckons", "(I)I"⟩, 71) := ⟨⟨by decide +kernel, by decide +kernel⟩, List.mem_of_getElem? (i := 1343) (by decide +kernel), List.mem_of_getElem? (i := 1813) (by decide +kernel), List.mem_of_getElem? (i := 1814) (by decide +kernel)⟩
theorem lw_p88 : lw_okq (⟨"TownTableModel", "isGoing", "(II)Z"⟩, 71) := ⟨⟨by decide +kernel, by decide +kernel⟩, List.mem_of_getElem? (i := 1343) (by decide +kernel), List.mem_of_getElem? (i := 1826) (by decide +kernel), List.mem_of_getElem? (i := 1827) (by decide +kernel)⟩
theorem lw_p89 : lw_okq (⟨"TownTableModel", "isSoon", "(III)Z"⟩, 71) := ⟨⟨by decide +kernel, by decide +kernel⟩, List.mem_of_getElem? (i := 1343) (by decide +kernel), List.mem_of_getElem? (i := 1850) (by decide +kernel), List.mem_of_getElem? (i := 1851) (by decide +kernel)⟩
theorem lw_p90 : lw_okq (⟨"TownTableModel", "goesTo", "(I)V"⟩, 71) := ⟨⟨by decide +kernel, by decide +kernel⟩, List.mem_of_getElem? (i := 1343) (by decide +kernel), List.mem_of_getElem? (i := 1854) (by decide +kernel), List.mem_of_getElem? (i := 1855) (by decide +kernel)⟩
theorem lw_p91 : lw_okq (⟨"TownTableModel", "tries", "()V"⟩, 71) := ⟨⟨by decide +kernel, by decide +kernel⟩, List.mem_of_getElem? (i := 1343) (by decide +kernel), List.mem_of_getElem? (i := 1858) (by decide +kernel), List.mem_of_getElem? (i := 1859) (by decide +kernel)⟩
theorem lw_p92 : lw_okq (⟨"TownTableModel", "hoursGo", "(I)V"⟩, 71) := ⟨⟨by decide +kernel, by decide +kernel⟩, List.mem_of_getElem? (i := 1343) (by decide +kernel), List.mem_of_getElem? (i := 1862) (by decide +kernel), List.mem_of_getElem? (i := 1863) (by decide +kernel)⟩
theorem lw_p93 : lw_okq (⟨"TownTableModel", "clears", "()V"⟩, 71) := ⟨⟨by decide +kernel, by decide +kernel⟩, List.mem_of_getElem? (i := 1343) (by decide +kernel), List.mem_of_getElem? (i := 1878) (by decide +kernel), List.mem_of_getElem? (i := 1879) (by decide +kernel)⟩
theorem lw_p94 : lw_okq (⟨"TownTableModel", "marks", "()V"⟩, 71) := ⟨⟨by decide +kernel, by decide +kernel⟩, List.mem_of_getElem? (i := 1343) (by decide +kernel), List.mem_of_getElem? (i := 1882) (by decide +kernel), List.mem_of_getElem? (i := 1883) (by decide +kernel)⟩
theorem lw_p95 : lw_okq (⟨"TownTableModel", "mostOften", "()I"⟩, 71) := ⟨⟨by decide +kernel, by decide +kernel⟩, List.mem_of_getElem? (i := 1343) (by decide +kernel), List.mem_of_getElem? (i := 1886) (by decide +kernel), List.mem_of_getElem? (i := 1887) (by decide +kernel)⟩
def lw_privs_6 : List (MethodName × Nat) := [(⟨"TownTableModel", "seenFrom", "(I)I"⟩, 71), (⟨"TownTableModel", "refuses", "(I)I"⟩, 71), (⟨"TownTableModel", "keeps", "()V"⟩, 71), (⟨"TownTableModel", "hourGoes", "(I)V"⟩, 71), (⟨"TownTableModel", "figureGoes", "(II)V"⟩, 71), (⟨"TownTableModel", "hurtsBy", "(II)I"⟩, 71), (⟨"TownTableModel", "tells", "(II)V"⟩, 71), (⟨"TownTableModel", "reckons", "(I)I"⟩, 71), (⟨"TownTableModel", "isGoing", "(II)Z"⟩, 71), (⟨"TownTableModel", "isSoon", "(III)Z"⟩, 71), (⟨"TownTableModel", "goesTo", "(I)V"⟩, 71), (⟨"TownTableModel", "tries", "()V"⟩, 71), (⟨"TownTableModel", "hoursGo", "(I)V"⟩, 71), (⟨"TownTableModel", "clears", "()V"⟩, 71), (⟨"TownTableModel", "marks", "()V"⟩, 71), (⟨"TownTableModel", "mostOften", "()I"⟩, 71)]
theorem lw_r6 : ∀ q ∈ lw_privs_6, lw_okq q := List.forall_mem_cons.mpr ⟨lw_p80, List.forall_mem_cons.mpr ⟨lw_p81, List.forall_mem_cons.mpr ⟨lw_p82, List.forall_mem_cons.mpr ⟨lw_p83, List.forall_mem_cons.mpr ⟨lw_p84, List.forall_mem_cons.mpr ⟨lw_p85, List.forall_mem_cons.mpr ⟨lw_p86, List.forall_mem_cons.mpr ⟨lw_p87, List.forall_mem_cons.mpr ⟨lw_p88, List.forall_mem_cons.mpr ⟨lw_p89, List.forall_mem_cons.mpr ⟨lw_p90, List.forall_mem_cons.mpr ⟨lw_p91, List.forall_mem_cons.mpr ⟨lw_p92, List.forall_mem_cons.mpr ⟨lw_p93, List.forall_mem_cons.mpr ⟨lw_p94, List.forall_mem_cons.mpr ⟨lw_p95, fun _ h => absurd h List.not_mem_nil⟩⟩⟩⟩⟩⟩⟩⟩⟩⟩⟩⟩⟩⟩⟩⟩
theorem lw_p96 : lw_okq (⟨"TownTableModel", "areAsNow", "()Z"⟩, 71) := ⟨⟨by decide +kernel, by decide +kernel⟩, List.mem_of_getElem? (i := 1343) (by decide +kernel), List.mem_of_getElem? (i := 1894) (by decide +kernel), List.mem_of_getElem? (i := 1895) (by decide +kernel)⟩
theorem lw_p97 : lw_okq (⟨"TownTableModel", "laysSeats", "()V"⟩, 71) := ⟨⟨by decide +kernel, by decide +kernel⟩, List.mem_of_getElem? (i := 1343) (by decide +kernel), List.mem_of_getElem? (i := 1934) (by decide +kernel), List.mem_of_getElem? (i := 1935) (by decide +kernel)⟩
theorem lw_p98 : lw_okq (⟨"TownTableModel", "canSit", "(III)Z"⟩, 71) := ⟨⟨by decide +kernel, by decide +kernel⟩, List.mem_of_getElem? (i := 1343) (by decide +kernel), List.mem_of_getElem? (i := 1938) (by decide +kernel), List.mem_of_getElem? (i := 1939) (by decide +kernel)⟩
theorem lw_p99 : lw_okq (⟨"TownTableModel", "sits", "(III)I"⟩, 71) := ⟨⟨by decide +kernel, by decide +kernel⟩, List.mem_of_getElem? (i := 1343) (by decide +kernel), List.mem_of_getElem? (i := 1942) (by decide +kernel), List.mem_of_getElem? (i := 1943) (by decide +kernel)⟩
theorem lw_p100 : lw_okq (⟨"TownTableModel", "isNoted", "()Z"⟩, 71) := ⟨⟨by decide +kernel, by decide +kernel⟩, List.mem_of_getElem? (i := 1343) (by decide +kernel), List.mem_of_getElem? (i := 1962) (by decide +kernel), List.mem_of_getElem? (i := 1963) (by decide +kernel)⟩
theorem lw_p101 : lw_okq (⟨"TownTableModel", "isGuess", "(I)Z"⟩, 71) := ⟨⟨by decide +kernel, by decide +kernel⟩, List.mem_of_getElem? (i := 1343) (by decide +kernel), List.mem_of_getElem? (i := 1966) (by decide +kernel), List.mem_of_getElem? (i := 1967) (by decide +kernel)⟩
theorem lw_p102 : lw_okq (⟨"TownTableModel", "gains", "(IIII)I"⟩, 71) := ⟨⟨by decide +kernel, by decide +kernel⟩, List.mem_of_getElem? (i := 1343) (by decide +kernel), List.mem_of_getElem? (i := 1982) (by decide +kernel), List.mem_of_getElem? (i := 1983) (by decide +kernel)⟩
theorem lw_p103 : lw_okq (⟨"TownTableModel", "happens", "()V"⟩, 71) := ⟨⟨by decide +kernel, by decide +kernel⟩, List.mem_of_getElem? (i := 1343) (by decide +kernel), List.mem_of_getElem? (i := 1990) (by decide +kernel), List.mem_of_getElem? (i := 1991) (by decide +kernel)⟩
theorem lw_p104 : lw_okq (⟨"TownTableModel", "draw", "(I)I"⟩, 71) := ⟨⟨by decide +kernel, by decide +kernel⟩, List.mem_of_getElem? (i := 1343) (by decide +kernel), List.mem_of_getElem? (i := 1994) (by decide +kernel), List.mem_of_getElem? (i := 1995) (by decide +kernel)⟩
def lw_privs_7 : List (MethodName × Nat) := [(⟨"TownTableModel", "areAsNow", "()Z"⟩, 71), (⟨"TownTableModel", "laysSeats", "()V"⟩, 71), (⟨"TownTableModel", "canSit", "(III)Z"⟩, 71), (⟨"TownTableModel", "sits", "(III)I"⟩, 71), (⟨"TownTableModel", "isNoted", "()Z"⟩, 71), (⟨"TownTableModel", "isGuess", "(I)Z"⟩, 71), (⟨"TownTableModel", "gains", "(IIII)I"⟩, 71), (⟨"TownTableModel", "happens", "()V"⟩, 71), (⟨"TownTableModel", "draw", "(I)I"⟩, 71)]
theorem lw_r7 : ∀ q ∈ lw_privs_7, lw_okq q := List.forall_mem_cons.mpr ⟨lw_p96, List.forall_mem_cons.mpr ⟨lw_p97, List.forall_mem_cons.mpr ⟨lw_p98, List.forall_mem_cons.mpr ⟨lw_p99, List.forall_mem_cons.mpr ⟨lw_p100, List.forall_mem_cons.mpr ⟨lw_p101, List.forall_mem_cons.mpr ⟨lw_p102, List.forall_mem_cons.mpr ⟨lw_p103, List.forall_mem_cons.mpr ⟨lw_p104, fun _ h => absurd h List.not_mem_nil⟩⟩⟩⟩⟩⟩⟩⟩⟩
def lw_privs : List (MethodName × Nat) := lw_privs_1 ++ (lw_privs_2 ++ (lw_privs_3 ++ (lw_privs_4 ++ (lw_privs_5 ++ (lw_privs_6 ++ (lw_privs_7))))))
def lw_tbl : List Cond := k2_sels lw_privs ++ tables_1
theorem lw_privs_ok : ∀ q ∈ lw_privs, lw_okq q := by
  show ∀ q ∈ lw_privs_1 ++ (lw_privs_2 ++ (lw_privs_3 ++ (lw_privs_4 ++ (lw_privs_5 ++ (lw_privs_6 ++ (lw_privs_7)))))), lw_okq q
  exact List.forall_mem_append.mpr ⟨lw_r1, List.forall_mem_append.mpr ⟨lw_r2, List.forall_mem_append.mpr ⟨lw_r3, List.forall_mem_append.mpr ⟨lw_r4, List.forall_mem_append.mpr ⟨lw_r5, List.forall_mem_append.mpr ⟨lw_r6, lw_r7⟩⟩⟩⟩⟩⟩
theorem tbl_end : True := trivial
end
section
/-! ===== BEGIN words of one list among another's, by their places ===== -/
theorem goodIn_r {big : List Cond} (ws : List Cond) (ps : List Nat) (hp : ws = ps.filterMap (fun i => big[i]?)) (h : ws.all goodWord = true) : GoodIn big ws := by
  intro w hw
  have h1 := List.all_eq_true.mp h w hw
  rw [hp] at hw
  obtain ⟨i, -, hi⟩ := List.mem_filterMap.mp hw
  have hm : w ∈ big := by first | exact List.mem_of_getElem? hi | exact List.getElem?_mem hi
  exact ⟨hm, good_of_word h1⟩
theorem goodIn_app {big a b : List Cond} (ha : GoodIn big a) (hb : GoodIn big b) : GoodIn big (a ++ b) := fun w h => (List.mem_append.mp h).elim (ha w) (hb w)
theorem goodIn_ca {big a b : List Cond} {c : Cond} (ha : GoodIn big (c :: a)) (hb : GoodIn big b) : GoodIn big (c :: (a ++ b)) := fun w h => (List.mem_cons.mp h).elim (fun e => ha w (List.mem_cons.mpr (Or.inl e))) (fun h => (List.mem_append.mp h).elim (fun h => ha w (List.mem_cons.mpr (Or.inr h))) (hb w))
theorem goodIn_sub {big ws : List Cond} (hm : ∀ w ∈ ws, w ∈ big) (h : ws.all goodWord = true) : GoodIn big ws := fun w hw => ⟨hm w hw, good_of_word (List.all_eq_true.mp h w hw)⟩
/-! ===== END ===== -/

/-! ===== BEGIN exceptions that leave a method, and their catching by the caller (launches without stack traces) ===== -/
section VXA
/-! The laws vx_back, vx_callV, vx_callS, vx_callSW, vx_throw0, vx_throwS follow proofs of the library, with one case more: JvmDerived/Free/Laws.lean (Back.of_free), Shelf42/LK1.lean (callV, callS), Shelf/KitTraced.lean (throwNew0V, throwNewS). -/
/-- where a method has thrown q: the class by its name, the cell, what was written, the world -/
def vx_T (XC : String → State → State → Prop) (st : State) (q : Addr) (t : State) (mc ms : Nat) (free : Addr → Prop) : Prop :=
  ∃ (E : String) (ce : Cell) (L : List Loc), XC E st t ∧ t.heap[q]? = some ce ∧ ce.vm = .none ∧ st.vm.findClass E = some ce.cls ∧ st.WarmedH t.vm ∧ st.sameButNew ({ t with vm := st.vm } : State) L mc ms ∧ ∀ z ∈ L, free z.base
def vx_Q (Qc : Array Value → State → Outcome → State → Prop) (XC : String → State → State → Prop) (mc ms : Nat) (free : Addr → Prop) : Array Value → State → Outcome → State → Prop := fun a st o t =>
  (Qc a st o t ∧ ∃ L, FrameEnd st o t L mc ms ∧ ∀ q ∈ L, free q.base) ∨ ∃ q, o = .threw q ∧ vx_T XC st q t mc ms free
/-- a callee that returns or throws -/
def vx_Met (l : Launch) (y : MethodName) (ws : List Cond) (rm : Room) (Pc : Array Value → State → Prop) (Qc : Array Value → State → Outcome → State → Prop) (XC : String → State → State → Prop) (mc ms : Nat) (free : Addr → Prop) : Prop :=
  MetFree l y (headSpec ws rm) Pc (fun _ _ _ _ _ => True) (vx_Q Qc XC mc ms free)
def vx_Post (XC : String → State → State → Prop) (mc ms : Nat) (free : Addr → Prop) : Pt → Array Value → Addr → Pt → Prop := fun A a q B =>
  ∃ (g : JFrame) (mk : MethodId) (t : State) (L : List Loc) (E : String) (ce : Cell), B.U.heap = t.heap ∧ B.U.vm = t.vm ∧ XC E (A.U.calling g mk a) t ∧ t.heap[q]? = some ce ∧ ce.vm = .none ∧ A.U.vm.findClass E = some ce.cls ∧ B.locs = A.locs ++ L ∧ (∀ z ∈ L, free z.base) ∧ B.cells = A.cells + mc ∧ B.slots = A.slots + ms
def vx_Back (l : Launch) (R : Room) (p : Program) (e : Env) (below : List Frame) (s : State) (sargs : Array Value) (y : MethodName) (len W9 : Nat)
    (Pre : Pt → Array Value → Prop) (Post : Pt → Array Value → Option Value → Pt → Prop) (PostX : Pt → Array Value → Addr → Pt → Prop) : Prop :=
  ∀ (m : MethodId) (meth : Method) (c : Code) (A : Pt) (g : JFrame) (ig : Instr) (mk : MethodId) (a : Array Value),
    Stand p l e R s m sargs below meth c A.U A.locs A.cells A.slots → g.method = m → g.locals.size = c.maxLocals → decode c.code g.pc = .ok (ig, len) →
    2 * g.monitorRoom + (g.stack.map fun v => v.category).sum ≤ W9 → A.U.methodNamed? y = some mk → Pre A a →
    (∃ (v : Option Value) (B : Pt), Stand p l e R s m sargs below meth c B.U B.locs B.cells B.slots ∧ Post A a v B ∧
      Steps p.tables e below (doInvoke e (A.U.setTop g) [] mk a).1 (B.U.setTop { g with pc := g.pc + len, stack := v.toList ++ g.stack })) ∨
    (∃ (q : Addr) (B : Pt), Stand p l e R s m sargs below meth c B.U B.locs B.cells B.slots ∧ PostX A a q B ∧
      Steps p.tables e below (doInvoke e (A.U.setTop g) [] mk a).1 ((B.U.setTop g).pushFrame (.throwing q)))
section Payer
variable {l : Launch} {R : Room} {p : Program} {e : Env} {below : List Frame} {s : State} {sargs : Array Value} {y : MethodName} {len W9 : Nat}
theorem vx_back {ws : List Cond} {rm : Room} {Pc : Array Value → State → Prop} {Qc : Array Value → State → Outcome → State → Prop} {XC : String → State → State → Prop} {mc ms : Nat} {free : Addr → Prop} {bytes : ByteArray} {maxL : Nat} {ret : Option FieldType}
    (hM : vx_Met l y ws rm Pc Qc XC mc ms free) (hblind : FrameBlind Pc) (hrc : rm.cells = mc) (hrs : rm.slots = ms)
    (hframes : rm.frames + 1 ≤ R.frames) (hlocals : W9 + (maxL + 11) + rm.locals ≤ R.locals)
    (hws : ∀ w ∈ ws, ∀ a' U, s.WarmedH U.vm → w.before a' U = true) (hcode : Cond.code y bytes maxL ret ∈ ws) (hinit : ∀ a' U, s.WarmedH U.vm → (Cond.initialized y.cls).before a' U = true) :
    vx_Back l R p e below s sargs y len W9 (PreOf R mc ms Pc) (PostOf Qc mc ms free) (vx_Post XC mc ms free) := by
  intro m meth c A g ig mk a X hg hsize hdg hW hn hp
  have h1 : (headSpec ws rm).pre.before a A.U = true := atoms_intro fun w hw => hws w hw _ _ X.warmed
  have h2 : (Cond.code y bytes maxL ret).before a A.U = true := hws _ hcode _ _ X.warmed
  have h3 : (Cond.initialized y.cls).before a A.U = true := hinit _ _ X.warmed
  have h4 : A.cells + (headSpec ws rm).room.cells ≤ R.cells := by rw [show (headSpec ws rm).room.cells = mc from hrc]; exact hp.1
  have h5 : A.slots + (headSpec ws rm).room.slots ≤ R.slots := by rw [show (headSpec ws rm).room.slots = ms from hrs]; exact hp.2.1
  have hPc : Pc a (A.U.calling g mk a) := hblind _ _ _ _ hp.2.2
  obtain ⟨U, Ls, c0, s0⟩ := A
  dsimp only [Pt.U, Pt.locs, Pt.cells, Pt.slots] at h1 h2 h3 h4 h5 X hn hPc ⊢
  obtain ⟨methY, cY, hmY, hcY, -, hlY, -, -, -, -⟩ := Cond.code_spec hn h2
  obtain ⟨kY, hkY, -⟩ := className_of_methodNamed hn
  have hinitY : kY.init = .initialized := Cond.initialized_spec (findClass_of_methodNamed hn) hkY h3
  have h : At U g.method c below := by rw [hg]; exact X.here
  have hlocals9 : W9 + (maxL + 11) + (headSpec ws rm).room.locals ≤ R.locals := hlocals
  have happ : (headSpec ws rm).appliesLoose y e.platform (U.calling g mk a) = true :=
    Spec.appliesLoose_calling (g := g) h hdg hn hkY hinitY
      (X.room_calling (g := g) (R' := (headSpec ws rm).room) hsize hmY hcY hframes (by rw [hlY]; omega) h4 h5) h1
  obtain ⟨mid, hmid⟩ := h.above
  have hfr : (U.setTop g).frames = (.java g :: mid) ++ below := by rw [State.frames_setTop' g h.top, hmid]; rfl
  obtain ⟨o, s₂, hsteps, -, hend, hq⟩ := Steps.callFree hM p X.admits X.cas X.clock (acts := []) hfr happ hPc trivial
  have hq' : vx_Q Qc XC mc ms free a (U.calling g mk a) o s₂ := hq
  rw [State.frames_setTop' g h.top] at hend
  obtain ⟨g₀, hg0⟩ := Option.isSome_iff_exists.mp h.top
  obtain ⟨r, hr⟩ := State.topJava?_eq_some.mp hg0
  have hr' : (({ U with heap := s₂.heap, slotsUsed := s₂.slotsUsed } : State).setVm s₂.vm).frames = .java g₀ :: r := hr
  rcases hq' with ⟨hqc, L, hfe, hL⟩ | ⟨q, rfl, E, ce, L, hx, hce, hcv, hcl, hW₂, hsm, hL⟩
  · obtain ⟨⟨v, rfl⟩, hW₂, e2, q2, q3, q4, q5, q6⟩ := id hfe
    have e3 : s₂ = ({ (U.calling g mk a).setFrames s₂.frames with heap := s₂.heap, slotsUsed := s₂.slotsUsed } : State).setVm s₂.vm := by
      have : s₂ = ({ s₂ with vm := (U.calling g mk a).vm } : State).setVm s₂.vm := rfl
      rw [e2] at this
      exact this
    obtain ⟨c₂, i₂, len₂, hc₂, hd₂, hf₂⟩ := hend
    have hW' : U.WarmedH s₂.vm := hW₂
    have hcc : c₂ = c := by
      have h1 : s₂.code? g.method = U.code? g.method := by
        rw [State.code?_eq, State.code?_eq, hW'.alike.method?]
      exact Option.some.inj (hc₂.symm.trans (h1.trans h.code))
    subst hcc
    have hlen : len₂ = len := by rw [hdg] at hd₂; cases hd₂; rfl
    subst hlen
    have hs₂ : s₂ = (({ U with heap := s₂.heap, slotsUsed := s₂.slotsUsed } : State).setVm s₂.vm).setTop { g with pc := g.pc + len₂, stack := v.toList ++ g.stack } := by
      refine e3.trans ?_
      rw [hf₂, State.calling_eq h.top, State.setFrames_setFrames, State.setTop_of_frames _ hr', hr]
      rfl
    have hsame : U.sameButNew ({ U with heap := s₂.heap, slotsUsed := s₂.slotsUsed } : State) L mc ms := by
      refine ⟨?_, q2, q3, q4, q5, q6⟩
      obtain ⟨t, ht, -⟩ := State.frames_cons hr
      show ({ U with heap := s₂.heap, slotsUsed := s₂.slotsUsed } : State) = { U.setFrames U.frames with heap := s₂.heap, slotsUsed := s₂.slotsUsed }
      rw [State.setFrames_self ht]
    subst hg
    refine Or.inl ⟨v, ⟨(({ U with heap := s₂.heap, slotsUsed := s₂.slotsUsed } : State).setVm s₂.vm), Ls ++ L, c0 + mc, s0 + ms⟩,
      ⟨X.admits, X.cas, X.clock, X.frames, X.room, X.hears, X.method, X.code, (X.here.setHeapUsed s₂.heap s₂.slotsUsed).setVm hW'.alike, X.tail, State.WarmedH.trans X.warmed hW', X.limits, X.bytes, X.same.trans (hsame.setVm s.vm)⟩,
      ⟨g, mk, s₂, L, rfl, rfl, hqc, rfl, hL, rfl, rfl⟩, ?_⟩
    show Steps p.tables e below _ ((({ U with heap := s₂.heap, slotsUsed := s₂.slotsUsed } : State).setVm s₂.vm).setTop { g with pc := g.pc + len₂, stack := v.toList ++ g.stack })
    rw [← hs₂]
    exact hsteps
  · obtain ⟨e2, q2, q3, q4, q5, q6⟩ := id hsm
    have e3 : s₂ = ({ (U.calling g mk a).setFrames s₂.frames with heap := s₂.heap, slotsUsed := s₂.slotsUsed } : State).setVm s₂.vm := by
      have : s₂ = ({ s₂ with vm := (U.calling g mk a).vm } : State).setVm s₂.vm := rfl
      rw [e2] at this
      exact this
    have hf₂ : s₂.frames = .throwing q :: .java g :: U.frames.tail := hend
    have hW' : U.WarmedH s₂.vm := hW₂
    have hs₂ : s₂ = ((({ U with heap := s₂.heap, slotsUsed := s₂.slotsUsed } : State).setVm s₂.vm).setTop g).pushFrame (.throwing q) := by
      refine e3.trans ?_
      rw [hf₂, State.calling_eq h.top, State.setFrames_setFrames, State.pushFrame, State.frames_setTop _ hr', State.setTop_of_frames _ hr', State.setFrames_setFrames, hr]
      rfl
    have hsame : U.sameButNew ({ U with heap := s₂.heap, slotsUsed := s₂.slotsUsed } : State) L mc ms := by
      refine ⟨?_, q2, q3, q4, q5, q6⟩
      obtain ⟨t, ht, -⟩ := State.frames_cons hr
      show ({ U with heap := s₂.heap, slotsUsed := s₂.slotsUsed } : State) = { U.setFrames U.frames with heap := s₂.heap, slotsUsed := s₂.slotsUsed }
      rw [State.setFrames_self ht]
    subst hg
    refine Or.inr ⟨q, ⟨(({ U with heap := s₂.heap, slotsUsed := s₂.slotsUsed } : State).setVm s₂.vm), Ls ++ L, c0 + mc, s0 + ms⟩,
      ⟨X.admits, X.cas, X.clock, X.frames, X.room, X.hears, X.method, X.code, (X.here.setHeapUsed s₂.heap s₂.slotsUsed).setVm hW'.alike, X.tail, State.WarmedH.trans X.warmed hW', X.limits, X.bytes, X.same.trans (hsame.setVm s.vm)⟩,
      ⟨g, mk, s₂, L, E, ce, rfl, rfl, hx, hce, hcv, hcl, rfl, hL, rfl, rfl⟩, ?_⟩
    show Steps p.tables e below _ (((({ U with heap := s₂.heap, slotsUsed := s₂.slotsUsed } : State).setVm s₂.vm).setTop g).pushFrame (.throwing q))
    rw [← hs₂]
    exact hsteps
end Payer
section Calls
variable {p : Program} {l : Launch} {e : Env} {R : Room} {s : State} {m : MethodId} {args : Array Value} {below : List Frame} {meth : Method} {c : Code} {T : State} {locs : List Loc} {cells slots : Nat}
theorem vx_callV (X : Stand p l e R s m args below meth c T locs cells slots) (hexec : p.tables.exec = Jvm.exec) {own C : String} {index : Nat} {y : MethodName} {bytes : ByteArray} {maxL : Nat} {ret : Option FieldType}
    (hown : s.vm.findClass own = some m.cls) (hlink : (Cond.methodLink own index y).before args s = true) (hinst : (Cond.instanceMethod y).before args s = true) (hsel : (Cond.selects C y y).before args s = true)
    (hcode : (Cond.code y bytes maxL ret).before args s = true) (hy : y.cls ≠ "java/lang/invoke/MethodHandle" ∧ y.cls ≠ "java/lang/invoke/VarHandle")
    {W9 : Nat} {Pre : Pt → Array Value → Prop} {Post : Pt → Array Value → Option Value → Pt → Prop} {PostX : Pt → Array Value → Addr → Pt → Prop} (hK : vx_Back l R p e below s args y 3 W9 Pre Post PostX)
    {b : Addr} {cellB : Cell} (hcell : T.heap[b]? = some cellB) (hobj : cellB.vm.isStatics = false) (hcls : s.vm.findClass C = some cellB.cls)
    {g : JFrame} (hg : g.method = m) (hsize : g.locals.size = c.maxLocals) {argsL rest : List Value} (hlen : ∀ sig, parseMethodDescriptor y.desc = some sig → argsL.length = sig.parameters.length)
    (hstack : g.stack = argsL.reverse ++ .ref b :: rest) (hW : 2 * g.monitorRoom + (rest.map fun v => v.category).sum ≤ W9) (hdg : decode c.code g.pc = .ok (.invokevirtual index, 3))
    (hpre : ∀ vm₁, s.WarmedH vm₁ → Pre ⟨T.setVm vm₁, locs, cells, slots⟩ (Value.ref b :: argsL).toArray) :
    (∃ (v : Option Value) (vm₁ : Vm) (B : Pt), s.WarmedH vm₁ ∧ Stand p l e R s m args below meth c B.U B.locs B.cells B.slots ∧ Post ⟨T.setVm vm₁, locs, cells, slots⟩ (Value.ref b :: argsL).toArray v B ∧
      ∀ target, Steps p.tables e below (B.U.setTop { g with pc := g.pc + 3, stack := v.toList ++ rest }) target → Steps p.tables e below (T.setTop g) target) ∨
    (∃ (q : Addr) (vm₁ : Vm) (B : Pt), s.WarmedH vm₁ ∧ Stand p l e R s m args below meth c B.U B.locs B.cells B.slots ∧ PostX ⟨T.setVm vm₁, locs, cells, slots⟩ (Value.ref b :: argsL).toArray q B ∧
      Steps p.tables e below (T.setTop g) ((B.U.setTop { g with stack := rest }).pushFrame (.throwing q))) := by
  obtain ⟨mk, methM, hnamed, hmethM, hstM, habM⟩ := Cond.instanceMethod_spec hinst
  obtain ⟨methM', cM, hmethM', -, -, -, -, -, -, hsigM⟩ := Cond.code_spec hnamed hcode
  cases hmethM.symm.trans hmethM'
  obtain ⟨c2, r2, m2, q1, q2, q3, q4, kP, hkP, hkPi⟩ := Cond.selects_spec hsel
  cases hcls.symm.trans q1
  cases (State.methodFound?_of_named hnamed hy).symm.trans q2
  cases hnamed.symm.trans q3
  have hselP : selectMethod e.platform s.vm cellB.cls mk = .method mk := by rw [Launch.admits_selectMethod X.admits]; exact q4
  obtain ⟨vm₁, X₁, hstep₁⟩ := X.invokevirtual hexec hown hlink hnamed hmethM hstM hkP hkPi hy (a := b) (cell := cellB) hcell
    (fun z h => by rw [h] at hobj; cases hobj) hselP hmethM habM hkP hkPi (g := g) hg (argsL := argsL) (rest := rest) (hlen _ hsigM) hstack hdg
  rcases hK m meth c ⟨T.setVm vm₁, locs, cells, slots⟩ { g with stack := rest } (.invokevirtual index) mk (Value.ref b :: argsL).toArray X₁ hg hsize hdg hW (X₁.named hnamed) (hpre vm₁ X₁.warmed) with ⟨v, B, X', hpost, hsteps⟩ | ⟨q, B, X', hpost, hsteps⟩
  · exact Or.inl ⟨v, vm₁, B, X₁.warmed, X', hpost, fun target h => hstep₁ _ fun acts => by rw [doInvoke_state]; exact hsteps.trans h⟩
  · exact Or.inr ⟨q, vm₁, B, X₁.warmed, X', hpost, hstep₁ _ fun acts => by rw [doInvoke_state]; exact hsteps⟩
theorem vx_callS (X : Stand p l e R s m args below meth c T locs cells slots) (hexec : p.tables.exec = Jvm.exec) {own : String} {index : Nat} {y : MethodName} {bytes : ByteArray} {maxL : Nat} {ret : Option FieldType}
    (hown : s.vm.findClass own = some m.cls) (hlink : (Cond.methodLink own index y).before args s = true) (hstat : (Cond.static y).before args s = true) (hinit : (Cond.initialized y.cls).before args s = true)
    (hcode : (Cond.code y bytes maxL ret).before args s = true) (hy : y.cls ≠ "java/lang/invoke/MethodHandle" ∧ y.cls ≠ "java/lang/invoke/VarHandle")
    {W9 : Nat} {Pre : Pt → Array Value → Prop} {Post : Pt → Array Value → Option Value → Pt → Prop} {PostX : Pt → Array Value → Addr → Pt → Prop} (hK : vx_Back l R p e below s args y 3 W9 Pre Post PostX)
    {g : JFrame} (hg : g.method = m) (hsize : g.locals.size = c.maxLocals) {argsL rest : List Value} (hlen : ∀ sig, parseMethodDescriptor y.desc = some sig → argsL.length = sig.parameters.length)
    (hstack : g.stack = argsL.reverse ++ rest) (hW : 2 * g.monitorRoom + (rest.map fun v => v.category).sum ≤ W9) (hdg : decode c.code g.pc = .ok (.invokestatic index, 3))
    (hpre : ∀ vm₁, s.WarmedH vm₁ → Pre ⟨T.setVm vm₁, locs, cells, slots⟩ argsL.toArray) :
    (∃ (v : Option Value) (vm₁ : Vm) (B : Pt), s.WarmedH vm₁ ∧ Stand p l e R s m args below meth c B.U B.locs B.cells B.slots ∧ Post ⟨T.setVm vm₁, locs, cells, slots⟩ argsL.toArray v B ∧
      ∀ target, Steps p.tables e below (B.U.setTop { g with pc := g.pc + 3, stack := v.toList ++ rest }) target → Steps p.tables e below (T.setTop g) target) ∨
    (∃ (q : Addr) (vm₁ : Vm) (B : Pt), s.WarmedH vm₁ ∧ Stand p l e R s m args below meth c B.U B.locs B.cells B.slots ∧ PostX ⟨T.setVm vm₁, locs, cells, slots⟩ argsL.toArray q B ∧
      Steps p.tables e below (T.setTop g) ((B.U.setTop { g with stack := rest }).pushFrame (.throwing q))) := by
  obtain ⟨mk, hnamed⟩ := Cond.code_named hcode
  obtain ⟨methM, cM, hmethM, -, -, -, -, -, -, hsigM⟩ := Cond.code_spec hnamed hcode
  have hstatic : methM.isStatic = true := Cond.static_spec hnamed hmethM hstat
  obtain ⟨kP, hkP, -⟩ := className_of_methodNamed hnamed
  have hinitP : kP.init = .initialized := Cond.initialized_spec (findClass_of_methodNamed hnamed) hkP hinit
  obtain ⟨vm₁, X₁, hstep₁⟩ := X.invokestatic hexec hown hlink hnamed hmethM hstatic hkP hinitP hy (g := g) hg (argsL := argsL) (rest := rest) (hlen _ hsigM) hstack hdg
  rcases hK m meth c ⟨T.setVm vm₁, locs, cells, slots⟩ { g with stack := rest } (.invokestatic index) mk argsL.toArray X₁ hg hsize hdg hW (X₁.named hnamed) (hpre vm₁ X₁.warmed) with ⟨v, B, X', hpost, hsteps⟩ | ⟨q, B, X', hpost, hsteps⟩
  · exact Or.inl ⟨v, vm₁, B, X₁.warmed, X', hpost, fun target h => hstep₁ _ fun acts => by rw [doInvoke_state]; exact hsteps.trans h⟩
  · exact Or.inr ⟨q, vm₁, B, X₁.warmed, X', hpost, hstep₁ _ fun acts => by rw [doInvoke_state]; exact hsteps⟩
end Calls
theorem vx_cls {s : State} {T : State} {vm₁ : Vm} {E : String} {k : ClassId} (hW : s.WarmedH vm₁) (h : (T.setVm vm₁).vm.findClass E = some k) : s.vm.findClass E = some k := by
  have h1 : vm₁.findClass E = some k := h
  rw [hW.alike.findClass] at h1
  exact h1
/-- the method's frame g, with q thrown over it -/
def vx_W (p : Program) (l : Launch) (e : Env) (R : Room) (s : State) (m : MethodId) (args : Array Value) (below : List Frame) (meth : Method) (c : Code) (H : Heap) (locs : List Loc) (cells slots : Nat) (Q : State → Prop) (g : JFrame) (q : Addr) : Prop :=
  ∀ T : State, T.heap = H → Stand p l e R s m args below meth c T locs cells slots → ∃ t, Steps p.tables e below ((T.setTop g).pushFrame (.throwing q)) t ∧ Q t
def vx_Run (p : Program) (l : Launch) (e : Env) (R : Room) (s : State) (m : MethodId) (args : Array Value) (below : List Frame) (meth : Method) (c : Code) (H : Heap) (locs : List Loc) (cells slots mc ms : Nat) (g : JFrame) (rest : List Value) (Qa : State → Outcome → State → Prop) (XC : String → State → State → Prop) (free : Addr → Prop) : Prop :=
  ∀ T : State, T.heap = H → Stand p l e R s m args below meth c T locs cells slots →
    (∃ (v : Option Value) (st₀ t T' : State) (L : List Loc), st₀.heap = H ∧ Stand p l e R s m args below meth c T' (locs ++ L) (cells + mc) (slots + ms) ∧ (∀ q ∈ L, free q.base) ∧ T'.heap = t.heap ∧ T'.vm = t.vm ∧ Qa st₀ (.returned v) t ∧
      Goes p e below T g T' { g with pc := g.pc + 3, stack := v.toList ++ rest }) ∨
    (∃ (q : Addr) (st₀ t T' : State) (L : List Loc) (E : String) (ce : Cell), st₀.heap = H ∧ Stand p l e R s m args below meth c T' (locs ++ L) (cells + mc) (slots + ms) ∧ (∀ z ∈ L, free z.base) ∧ T'.heap = t.heap ∧ T'.vm = t.vm ∧ XC E st₀ t ∧ t.heap[q]? = some ce ∧ ce.vm = .none ∧ s.vm.findClass E = some ce.cls ∧
      Steps p.tables e below (T.setTop g) ((T'.setTop { g with stack := rest }).pushFrame (.throwing q)))
def vx_X {S : Type} (px : S → Prop) (B : String → S → State → Prop) (A : Nat → Prop) : String → State → State → Prop := fun E st t => ∃ u : S, px u ∧ B E u t ∧ va_F A st t
section Runs
variable {p : Program} {l : Launch} {e : Env} {R : Room} {s : State} {m : MethodId} {args : Array Value} {below : List Frame} {meth : Method} {c : Code} {H : Heap} {locs : List Loc} {cells slots : Nat}
variable {y : MethodName} {bytes cc : ByteArray} {maxL nL mc ms n index : Nat} {ret : Option FieldType} {ws : List Cond} {rm : Room} {Pc : Array Value → State → Prop} {Qc : Array Value → State → Outcome → State → Prop} {XC : String → State → State → Prop} {free : Addr → Prop} {Ts : List Cond} {own C : String} {b : Addr} {As rest : List Value} {g : JFrame}
theorem vx_callBack (cb : CallB R s args own index y bytes maxL ret ws rm mc ms n) (hM : vx_Met l y ws rm Pc Qc XC mc ms free) (hbl : FrameBlind Pc) : vx_Back l R p e below s args y 3 8 (PreOf R mc ms Pc) (PostOf Qc mc ms free) (vx_Post XC mc ms free) := by
  obtain ⟨hrc, hrs, hfr, hlo, hws, hcw, -, hini, -⟩ := cb
  exact vx_back (bytes := bytes) (maxL := maxL) (ret := ret) hM hbl hrc hrs hfr hlo hws hcw (fun a' U hW => word_at hW (Or.inl (by first | rfl | simp [Cond.onTables, Cond.keeps, Cond.steady])) hini)
theorem vx_runV (S : CallFix p m c cc nL s args Ts own) (hM : vx_Met l y ws rm Pc Qc XC mc ms free) (cw : CallW R s args own C index y bytes maxL ret ws rm mc ms n) (hp : PreV s H C b Pc As)
    (hg : g.method = m) (hn : As.length = n) (hsize : g.locals.size = nL) (hstack : g.stack = As.reverse ++ .ref b :: rest) (hW : 2 * g.monitorRoom + (rest.map fun v => v.category).sum ≤ 8) (hdg : decode cc g.pc = .ok (.invokevirtual index, 3)) (hf : cells + mc ≤ R.cells ∧ slots + ms ≤ R.slots) :
    vx_Run p l e R s m args below meth c H locs cells slots mc ms g rest (Qc (Value.ref b :: As).toArray) XC free := by
  have hK : vx_Back l R p e below s args y 3 8 (PreOf R mc ms Pc) (PostOf Qc mc ms free) (vx_Post XC mc ms free) := vx_callBack cw.1 hM hp.1
  obtain ⟨⟨-, -, -, -, -, -, hcode, -, hy, hlen, hl⟩, hin, hse⟩ := cw
  obtain ⟨hx, hb, hml, ho, -⟩ := S
  obtain ⟨-, ⟨cellB, hcB, hoB, hclB⟩, hPc⟩ := hp
  intro T hT X
  rcases vx_callV X hx (C := C) (bytes := bytes) (maxL := maxL) (ret := ret) ho hl hin hse hcode hy hK (by rw [hT]; exact hcB) hoB hclB hg (hsize.trans hml.symm) (argsL := As) (rest := rest) (fun sig h => hn.trans (hlen sig h)) hstack hW (by rw [hb]; exact hdg)
    (fun vm₁ hW₁ => ⟨hf.1, hf.2, hPc (T.setVm vm₁) hT hW₁⟩) with ⟨v, vm₁, ⟨U', l2, c2, s2⟩, hW₁, X', ⟨g', mk, t, L, e1, e2, hq, h1, hL, h2, h3⟩, st⟩ | ⟨q, vm₁, ⟨U', l2, c2, s2⟩, hW₁, X', ⟨g', mk, t, L, E, ce, e1, e2, hq, hce, hcv, hcl, h1, hL, h2, h3⟩, st⟩
  · dsimp only [Pt.U, Pt.locs, Pt.cells, Pt.slots] at X' e1 e2 h1 h2 h3 st
    subst h1; subst h2; subst h3
    exact Or.inl ⟨v, (T.setVm vm₁).calling g' mk (Value.ref b :: As).toArray, t, U', L, hT, X', hL, e1, e2, hq, st⟩
  · dsimp only [Pt.U, Pt.locs, Pt.cells, Pt.slots] at X' e1 e2 h1 h2 h3 st hcl
    subst h1; subst h2; subst h3
    exact Or.inr ⟨q, (T.setVm vm₁).calling g' mk (Value.ref b :: As).toArray, t, U', L, E, ce, hT, X', hL, e1, e2, hq, hce, hcv, vx_cls hW₁ hcl, st⟩
theorem vx_runS (S : CallFix p m c cc nL s args Ts own) (hM : vx_Met l y ws rm Pc Qc XC mc ms free) (cw : CallB R s args own index y bytes maxL ret ws rm mc ms n ∧ (Cond.static y).before args s = true) (hp : PreS s H Pc As)
    (hg : g.method = m) (hn : As.length = n) (hsize : g.locals.size = nL) (hstack : g.stack = As.reverse ++ rest) (hW : 2 * g.monitorRoom + (rest.map fun v => v.category).sum ≤ 8) (hdg : decode cc g.pc = .ok (.invokestatic index, 3)) (hf : cells + mc ≤ R.cells ∧ slots + ms ≤ R.slots) :
    vx_Run p l e R s m args below meth c H locs cells slots mc ms g rest (Qc As.toArray) XC free := by
  have hK : vx_Back l R p e below s args y 3 8 (PreOf R mc ms Pc) (PostOf Qc mc ms free) (vx_Post XC mc ms free) := vx_callBack cw.1 hM hp.1
  obtain ⟨⟨-, -, -, -, -, -, hcode, hini, hy, hlen, hl⟩, hstt⟩ := cw
  obtain ⟨hx, hb, hml, ho, -⟩ := S
  intro T hT X
  rcases vx_callS X hx (bytes := bytes) (maxL := maxL) (ret := ret) ho hl hstt hini hcode hy hK hg (hsize.trans hml.symm) (argsL := As) (rest := rest) (fun sig h => hn.trans (hlen sig h)) hstack hW (by rw [hb]; exact hdg)
    (fun vm₁ hW₁ => ⟨hf.1, hf.2, hp.2 (T.setVm vm₁) hT hW₁⟩) with ⟨v, vm₁, ⟨U', l2, c2, s2⟩, hW₁, X', ⟨g', mk, t, L, e1, e2, hq, h1, hL, h2, h3⟩, st⟩ | ⟨q, vm₁, ⟨U', l2, c2, s2⟩, hW₁, X', ⟨g', mk, t, L, E, ce, e1, e2, hq, hce, hcv, hcl, h1, hL, h2, h3⟩, st⟩
  · dsimp only [Pt.U, Pt.locs, Pt.cells, Pt.slots] at X' e1 e2 h1 h2 h3 st
    subst h1; subst h2; subst h3
    exact Or.inl ⟨v, (T.setVm vm₁).calling g' mk As.toArray, t, U', L, hT, X', hL, e1, e2, hq, st⟩
  · dsimp only [Pt.U, Pt.locs, Pt.cells, Pt.slots] at X' e1 e2 h1 h2 h3 st hcl
    subst h1; subst h2; subst h3
    exact Or.inr ⟨q, (T.setVm vm₁).calling g' mk As.toArray, t, U', L, E, ce, hT, X', hL, e1, e2, hq, hce, hcv, vx_cls hW₁ hcl, st⟩
end Runs
section Rows
variable {p : Program} {l : Launch} {e : Env} {R : Room} {s : State} {m : MethodId} {args : Array Value} {below : List Frame} {meth : Method} {c : Code} {H : Heap} {locs : List Loc} {cells slots : Nat} {Q : State → Prop}
variable {mc ms : Nat} {free : Addr → Prop} {A0 A1 : Nat → Prop} {H0 : Heap} {a : Array Value} {pc : Nat} {ls : Array Slot} {st0 rest : List Value}
theorem vx_keep {st₀ t T' : State} {L : List Loc} (h0 : st₀.heap = H) (e1 : T'.heap = t.heap) (hS : va_S A0 H0 H locs) (hA : ∀ q, q < H.size → A1 q → A0 q) (hf : ∀ q, free q → A0 q) (hL : ∀ q ∈ L, free q.base) (hF : va_F A1 st₀ t) :
    H.size ≤ T'.heap.size ∧ (∀ q : Nat, q < H.size → ¬ A1 q → T'.heap[q]? = H[q]?) ∧ va_S A0 H0 T'.heap (locs ++ L) := by
  obtain ⟨hz, hk⟩ := hF
  rw [h0] at hz hk
  exact ⟨by rw [e1]; exact hz, fun q h1 h2 => by rw [e1]; exact hk q h1 h2,
    ⟨Nat.le_trans hS.1 (by rw [e1]; exact hz), fun q h1 h2 => by rw [e1, hk q (Nat.lt_of_lt_of_le h1 hS.1) (fun z => h2 (hA q (Nat.lt_of_lt_of_le h1 hS.1) z))]; exact hS.2.1 q h1 h2, fun q hq => by
      rcases List.mem_append.mp hq with h | h
      · exact hS.2.2 q h
      · exact hf _ (hL q h)⟩⟩
theorem vx_calli {S SX : Type} {post : Int32 → S → Prop} {px : SX → Prop} {B : S → State → Prop} {BX : String → SX → State → Prop} {AX : Nat → Prop} (hr : vx_Run p l e R s m args below meth c H locs cells slots mc ms (F0 m pc ls st0) rest (va_Qi post B A1 a) (vx_X px BX AX) free) (hS : va_S A0 H0 H locs) (hA : ∀ q, q < H.size → A1 q → A0 q) (hf : ∀ q, free q → A0 q) (hAX : ∀ q, q < H.size → AX q → A0 q)
    (kx : ∀ (E : String) (ce : Cell) (q9 : Addr) (u : SX) (t : State) (H1 : Heap) (locs1 : List Loc), t.heap = H1 → s.vm.Alike t.vm → px u → BX E u t → H.size ≤ H1.size → (∀ q : Nat, q < H.size → ¬ AX q → H1[q]? = H[q]?) → va_S A0 H0 H1 locs1 → H1[q9]? = some ce → ce.vm = .none → s.vm.findClass E = some ce.cls → vx_W p l e R s m args below meth c H1 locs1 (cells + mc) (slots + ms) Q (F0 m pc ls rest) q9)
    (kk : ∀ (r : Int32) (u : S) (t : State) (H1 : Heap) (locs1 : List Loc), t.heap = H1 → s.vm.Alike t.vm → post r u → B u t → H.size ≤ H1.size → (∀ q : Nat, q < H.size → ¬ A1 q → H1[q]? = H[q]?) → va_S A0 H0 H1 locs1 → W p l e R s m args below meth c H1 locs1 (cells + mc) (slots + ms) Q (F0 m (pc + 3) ls (.int r :: rest))) : W p l e R s m args below meth c H locs cells slots Q (F0 m pc ls st0) := by
  intro T hT X
  rcases hr T hT X with ⟨v, st₀, t, T', L, h0, X', hL, e1, e2, ⟨⟨r, u, hv, hp, hb⟩, hF⟩, st⟩ | ⟨q, st₀, t, T', L, E, ce, h0, X', hL, e1, e2, ⟨u, hp, hb, hF⟩, hce, hcv, hcl, st⟩
  · cases hv
    obtain ⟨k1, k2, k3⟩ := vx_keep h0 e1 hS hA hf hL hF
    obtain ⟨t2, a1, b1⟩ := kk r u t T'.heap (locs ++ L) e1.symm (by rw [← e2]; exact X'.warmed.alike) hp hb k1 k2 k3 T' rfl X'
    exact ⟨t2, st t2 a1, b1⟩
  · obtain ⟨k1, k2, k3⟩ := vx_keep h0 e1 hS hAX hf hL hF
    obtain ⟨t2, a1, b1⟩ := kx E ce q u t T'.heap (locs ++ L) e1.symm (by rw [← e2]; exact X'.warmed.alike) hp hb k1 k2 k3 (by rw [e1]; exact hce) hcv hcl T' rfl X'
    exact ⟨t2, st.trans a1, b1⟩
theorem vx_calll {S SX : Type} {post : Int64 → S → Prop} {px : SX → Prop} {B : S → State → Prop} {BX : String → SX → State → Prop} {AX : Nat → Prop} (hr : vx_Run p l e R s m args below meth c H locs cells slots mc ms (F0 m pc ls st0) rest (va_Ql post B A1 a) (vx_X px BX AX) free) (hS : va_S A0 H0 H locs) (hA : ∀ q, q < H.size → A1 q → A0 q) (hf : ∀ q, free q → A0 q) (hAX : ∀ q, q < H.size → AX q → A0 q)
    (kx : ∀ (E : String) (ce : Cell) (q9 : Addr) (u : SX) (t : State) (H1 : Heap) (locs1 : List Loc), t.heap = H1 → s.vm.Alike t.vm → px u → BX E u t → H.size ≤ H1.size → (∀ q : Nat, q < H.size → ¬ AX q → H1[q]? = H[q]?) → va_S A0 H0 H1 locs1 → H1[q9]? = some ce → ce.vm = .none → s.vm.findClass E = some ce.cls → vx_W p l e R s m args below meth c H1 locs1 (cells + mc) (slots + ms) Q (F0 m pc ls rest) q9)
    (kk : ∀ (r : Int64) (u : S) (t : State) (H1 : Heap) (locs1 : List Loc), t.heap = H1 → s.vm.Alike t.vm → post r u → B u t → H.size ≤ H1.size → (∀ q : Nat, q < H.size → ¬ A1 q → H1[q]? = H[q]?) → va_S A0 H0 H1 locs1 → W p l e R s m args below meth c H1 locs1 (cells + mc) (slots + ms) Q (F0 m (pc + 3) ls (.long r :: rest))) : W p l e R s m args below meth c H locs cells slots Q (F0 m pc ls st0) := by
  intro T hT X
  rcases hr T hT X with ⟨v, st₀, t, T', L, h0, X', hL, e1, e2, ⟨⟨r, u, hv, hp, hb⟩, hF⟩, st⟩ | ⟨q, st₀, t, T', L, E, ce, h0, X', hL, e1, e2, ⟨u, hp, hb, hF⟩, hce, hcv, hcl, st⟩
  · cases hv
    obtain ⟨k1, k2, k3⟩ := vx_keep h0 e1 hS hA hf hL hF
    obtain ⟨t2, a1, b1⟩ := kk r u t T'.heap (locs ++ L) e1.symm (by rw [← e2]; exact X'.warmed.alike) hp hb k1 k2 k3 T' rfl X'
    exact ⟨t2, st t2 a1, b1⟩
  · obtain ⟨k1, k2, k3⟩ := vx_keep h0 e1 hS hAX hf hL hF
    obtain ⟨t2, a1, b1⟩ := kx E ce q u t T'.heap (locs ++ L) e1.symm (by rw [← e2]; exact X'.warmed.alike) hp hb k1 k2 k3 (by rw [e1]; exact hce) hcv hcl T' rfl X'
    exact ⟨t2, st.trans a1, b1⟩
theorem vx_callf {S SX : Type} {post : UInt32 → S → Prop} {px : SX → Prop} {B : S → State → Prop} {BX : String → SX → State → Prop} {AX : Nat → Prop} (hr : vx_Run p l e R s m args below meth c H locs cells slots mc ms (F0 m pc ls st0) rest (va_Qf post B A1 a) (vx_X px BX AX) free) (hS : va_S A0 H0 H locs) (hA : ∀ q, q < H.size → A1 q → A0 q) (hf : ∀ q, free q → A0 q) (hAX : ∀ q, q < H.size → AX q → A0 q)
    (kx : ∀ (E : String) (ce : Cell) (q9 : Addr) (u : SX) (t : State) (H1 : Heap) (locs1 : List Loc), t.heap = H1 → s.vm.Alike t.vm → px u → BX E u t → H.size ≤ H1.size → (∀ q : Nat, q < H.size → ¬ AX q → H1[q]? = H[q]?) → va_S A0 H0 H1 locs1 → H1[q9]? = some ce → ce.vm = .none → s.vm.findClass E = some ce.cls → vx_W p l e R s m args below meth c H1 locs1 (cells + mc) (slots + ms) Q (F0 m pc ls rest) q9)
    (kk : ∀ (r : UInt32) (u : S) (t : State) (H1 : Heap) (locs1 : List Loc), t.heap = H1 → s.vm.Alike t.vm → post r u → B u t → H.size ≤ H1.size → (∀ q : Nat, q < H.size → ¬ A1 q → H1[q]? = H[q]?) → va_S A0 H0 H1 locs1 → W p l e R s m args below meth c H1 locs1 (cells + mc) (slots + ms) Q (F0 m (pc + 3) ls (.float r :: rest))) : W p l e R s m args below meth c H locs cells slots Q (F0 m pc ls st0) := by
  intro T hT X
  rcases hr T hT X with ⟨v, st₀, t, T', L, h0, X', hL, e1, e2, ⟨⟨r, u, hv, hp, hb⟩, hF⟩, st⟩ | ⟨q, st₀, t, T', L, E, ce, h0, X', hL, e1, e2, ⟨u, hp, hb, hF⟩, hce, hcv, hcl, st⟩
  · cases hv
    obtain ⟨k1, k2, k3⟩ := vx_keep h0 e1 hS hA hf hL hF
    obtain ⟨t2, a1, b1⟩ := kk r u t T'.heap (locs ++ L) e1.symm (by rw [← e2]; exact X'.warmed.alike) hp hb k1 k2 k3 T' rfl X'
    exact ⟨t2, st t2 a1, b1⟩
  · obtain ⟨k1, k2, k3⟩ := vx_keep h0 e1 hS hAX hf hL hF
    obtain ⟨t2, a1, b1⟩ := kx E ce q u t T'.heap (locs ++ L) e1.symm (by rw [← e2]; exact X'.warmed.alike) hp hb k1 k2 k3 (by rw [e1]; exact hce) hcv hcl T' rfl X'
    exact ⟨t2, st.trans a1, b1⟩
theorem vx_calld {S SX : Type} {post : UInt64 → S → Prop} {px : SX → Prop} {B : S → State → Prop} {BX : String → SX → State → Prop} {AX : Nat → Prop} (hr : vx_Run p l e R s m args below meth c H locs cells slots mc ms (F0 m pc ls st0) rest (va_Qd post B A1 a) (vx_X px BX AX) free) (hS : va_S A0 H0 H locs) (hA : ∀ q, q < H.size → A1 q → A0 q) (hf : ∀ q, free q → A0 q) (hAX : ∀ q, q < H.size → AX q → A0 q)
    (kx : ∀ (E : String) (ce : Cell) (q9 : Addr) (u : SX) (t : State) (H1 : Heap) (locs1 : List Loc), t.heap = H1 → s.vm.Alike t.vm → px u → BX E u t → H.size ≤ H1.size → (∀ q : Nat, q < H.size → ¬ AX q → H1[q]? = H[q]?) → va_S A0 H0 H1 locs1 → H1[q9]? = some ce → ce.vm = .none → s.vm.findClass E = some ce.cls → vx_W p l e R s m args below meth c H1 locs1 (cells + mc) (slots + ms) Q (F0 m pc ls rest) q9)
    (kk : ∀ (r : UInt64) (u : S) (t : State) (H1 : Heap) (locs1 : List Loc), t.heap = H1 → s.vm.Alike t.vm → post r u → B u t → H.size ≤ H1.size → (∀ q : Nat, q < H.size → ¬ A1 q → H1[q]? = H[q]?) → va_S A0 H0 H1 locs1 → W p l e R s m args below meth c H1 locs1 (cells + mc) (slots + ms) Q (F0 m (pc + 3) ls (.double r :: rest))) : W p l e R s m args below meth c H locs cells slots Q (F0 m pc ls st0) := by
  intro T hT X
  rcases hr T hT X with ⟨v, st₀, t, T', L, h0, X', hL, e1, e2, ⟨⟨r, u, hv, hp, hb⟩, hF⟩, st⟩ | ⟨q, st₀, t, T', L, E, ce, h0, X', hL, e1, e2, ⟨u, hp, hb, hF⟩, hce, hcv, hcl, st⟩
  · cases hv
    obtain ⟨k1, k2, k3⟩ := vx_keep h0 e1 hS hA hf hL hF
    obtain ⟨t2, a1, b1⟩ := kk r u t T'.heap (locs ++ L) e1.symm (by rw [← e2]; exact X'.warmed.alike) hp hb k1 k2 k3 T' rfl X'
    exact ⟨t2, st t2 a1, b1⟩
  · obtain ⟨k1, k2, k3⟩ := vx_keep h0 e1 hS hAX hf hL hF
    obtain ⟨t2, a1, b1⟩ := kx E ce q u t T'.heap (locs ++ L) e1.symm (by rw [← e2]; exact X'.warmed.alike) hp hb k1 k2 k3 (by rw [e1]; exact hce) hcv hcl T' rfl X'
    exact ⟨t2, st.trans a1, b1⟩
theorem vx_callv {S SX : Type} {post : S → Prop} {px : SX → Prop} {B : S → State → Prop} {BX : String → SX → State → Prop} {AX : Nat → Prop} (hr : vx_Run p l e R s m args below meth c H locs cells slots mc ms (F0 m pc ls st0) rest (va_Qv post B A1 a) (vx_X px BX AX) free) (hS : va_S A0 H0 H locs) (hA : ∀ q, q < H.size → A1 q → A0 q) (hf : ∀ q, free q → A0 q) (hAX : ∀ q, q < H.size → AX q → A0 q)
    (kx : ∀ (E : String) (ce : Cell) (q9 : Addr) (u : SX) (t : State) (H1 : Heap) (locs1 : List Loc), t.heap = H1 → s.vm.Alike t.vm → px u → BX E u t → H.size ≤ H1.size → (∀ q : Nat, q < H.size → ¬ AX q → H1[q]? = H[q]?) → va_S A0 H0 H1 locs1 → H1[q9]? = some ce → ce.vm = .none → s.vm.findClass E = some ce.cls → vx_W p l e R s m args below meth c H1 locs1 (cells + mc) (slots + ms) Q (F0 m pc ls rest) q9)
    (kk : ∀ (u : S) (t : State) (H1 : Heap) (locs1 : List Loc), t.heap = H1 → s.vm.Alike t.vm → post u → B u t → H.size ≤ H1.size → (∀ q : Nat, q < H.size → ¬ A1 q → H1[q]? = H[q]?) → va_S A0 H0 H1 locs1 → W p l e R s m args below meth c H1 locs1 (cells + mc) (slots + ms) Q (F0 m (pc + 3) ls (rest))) : W p l e R s m args below meth c H locs cells slots Q (F0 m pc ls st0) := by
  intro T hT X
  rcases hr T hT X with ⟨v, st₀, t, T', L, h0, X', hL, e1, e2, ⟨⟨u, hv, hp, hb⟩, hF⟩, st⟩ | ⟨q, st₀, t, T', L, E, ce, h0, X', hL, e1, e2, ⟨u, hp, hb, hF⟩, hce, hcv, hcl, st⟩
  · cases hv
    obtain ⟨k1, k2, k3⟩ := vx_keep h0 e1 hS hA hf hL hF
    obtain ⟨t2, a1, b1⟩ := kk u t T'.heap (locs ++ L) e1.symm (by rw [← e2]; exact X'.warmed.alike) hp hb k1 k2 k3 T' rfl X'
    exact ⟨t2, st t2 a1, b1⟩
  · obtain ⟨k1, k2, k3⟩ := vx_keep h0 e1 hS hAX hf hL hF
    obtain ⟨t2, a1, b1⟩ := kx E ce q u t T'.heap (locs ++ L) e1.symm (by rw [← e2]; exact X'.warmed.alike) hp hb k1 k2 k3 (by rw [e1]; exact hce) hcv hcl T' rfl X'
    exact ⟨t2, st.trans a1, b1⟩
/-- caught by the row x of this method's table; the rows ahead don't take it -/
theorem vx_catch {own name : String} {E : String} {ce : Cell} {q : Addr} (hown : s.vm.findClass own = some m.cls) (pre : List ExceptionTableEntry) (x : ExceptionTableEntry) (suf : List ExceptionTableEntry) (hsplit : c.exceptionTable.toList = pre ++ x :: suf)
    (hpass : ∀ z ∈ pre, covers z pc = false ∨ (z.catchType ≠ 0 ∧ ∃ nm : String, (Cond.classLink own z.catchType nm).before args s = true ∧ va_Nc E nm s)) (hx : covers x pc = true) (h0 : x.catchType ≠ 0)
    (hlink : (Cond.classLink own x.catchType name).before args s = true) (hcast : (Cond.castable E name).before args s = true) (hcell : H[q]? = some ce) (hv : ce.vm = .none) (hcl : s.vm.findClass E = some ce.cls)
    (kk : W p l e R s m args below meth c H locs cells slots Q (F0 m x.handlerPc ls [.ref q])) : vx_W p l e R s m args below meth c H locs cells slots Q (F0 m pc ls rest) q := by
  intro T hT X
  have hpl : e.platform.magicAccessors = ({} : Platform).magicAccessors := by rw [X.admits.platform]
  obtain ⟨c3, c4, hc3, hc4, hasg⟩ := Cond.castable_spec hcast
  cases Option.some.inj (hc3.symm.trans hcl)
  obtain ⟨c5, hc5, hcl5⟩ := Cond.classLink_spec hown hlink e.platform hpl
  cases Option.some.inj (hc4.symm.trans hc5)
  obtain ⟨vm', X', st⟩ := Jvm.Stand.thenCaughtThrough X q (g := F0 m pc ls rest) rfl (Steps.refl _) (by rw [hT]; exact hcell) (by rw [hv]; rfl) (by obtain ⟨k9, h9, -⟩ := Vm.findClass_spec hcl; exact ⟨k9, h9⟩) pre x suf hsplit
    (fun z hz => by
      rcases hpass z hz with h | ⟨hz0, nm, hl1, hn1⟩
      · exact Or.inl h
      · obtain ⟨c6, hc6, hcl6⟩ := Cond.classLink_spec hown hl1 e.platform hpl
        obtain ⟨a8, b8, h1, h2, h3⟩ := hn1
        cases Option.some.inj (h1.symm.trans hcl)
        cases Option.some.inj (h2.symm.trans hc6)
        exact Or.inr ⟨hz0, _, hcl6, h3⟩) hx (Or.inr ⟨h0, c4, hcl5, hasg⟩)
  obtain ⟨t, a1, b1⟩ := kk (T.setVm vm') hT X'
  exact ⟨t, st.trans a1, b1⟩
end Rows
section Ends
variable {p : Program} {l : Launch} {e : Env} {R : Room} {s : State} {m : MethodId} {args : Array Value} {below : List Frame} {meth : Method} {c : Code} {H : Heap} {locs : List Loc} {cells slots : Nat} {Q : State → Prop}
variable {mc ms : Nat} {free : Addr → Prop} {A0 A1 : Nat → Prop} {H0 : Heap} {a : Array Value} {ls : Array Slot} {st0 rest : List Value}
variable {Qc : Array Value → State → Outcome → State → Prop} {XC : String → State → State → Prop}
/-- what a body that may throw owes at its end -/
def vx_MQ (below : List Frame) (Qc : Array Value → State → Outcome → State → Prop) (XC : String → State → State → Prop) (a : Array Value) (s : State) (mc ms : Nat) (free : Addr → Prop) : State → Prop := fun t =>
  ∃ o, t.status = .running ∧ Ended t below o ∧ vx_Q Qc XC mc ms free a s o t
theorem vx_ret {g : JFrame} {mc ms : Nat} (k : W p l e R s m args below meth c H locs cells slots (MQ below Qc args s mc ms free) g) : W p l e R s m args below meth c H locs cells slots (vx_MQ below Qc XC args s mc ms free) g := by
  intro T hT X
  obtain ⟨t, a1, o, b1, b2, b3, b4⟩ := k T hT X
  exact ⟨t, a1, o, b1, b2, Or.inl ⟨b3, b4⟩⟩
/-- not caught here: it goes on to the caller -/
theorem vx_widen {g : JFrame} {q : Addr} {k n : Nat} (h1 : cells ≤ k) (h2 : slots ≤ n) (kk : vx_W p l e R s m args below meth c H locs k n Q g q) : vx_W p l e R s m args below meth c H locs cells slots Q g q := fun T hT X => kk T hT (stand_widen X h1 h2)
theorem vx_out {pc : Nat} {E : String} {ce : Cell} {q : Addr} {mc ms : Nat} (hout : ∀ x ∈ c.exceptionTable.toList, covers x pc = false) (hlocks : meth.locks = false) (hcell : H[q]? = some ce) (hv : ce.vm = .none) (hcl : s.vm.findClass E = some ce.cls)
    (hx : ∀ t : State, t.heap = H → s.vm.Alike t.vm → XC E s t) (hf : ∀ z ∈ locs, free z.base) (hc : cells ≤ mc) (hs : slots ≤ ms) :
    vx_W p l e R s m args below meth c H locs cells slots (vx_MQ below Qc XC args s mc ms free) (F0 m pc ls rest) q := by
  intro T hT X
  obtain ⟨st1, hrun, hend, hW, hsm⟩ := X.leaveThrown q (g := F0 m pc ls rest) rfl rfl rfl hout hlocks
  have hcell9 : (T.setFrames (.throwing q :: below)).heap[q]? = some ce := by
    show T.heap[q]? = some ce
    rw [hT]; exact hcell
  exact ⟨_, st1, .threw q, hrun, hend, Or.inr ⟨q, rfl, E, ce, locs, hx _ hT hW.alike, hcell9, hv, hcl, hW, hsm.mono hc hs, hf⟩⟩
theorem vx_frame {U : State} {k n : Nat} (h : s.sameButNew ({ U with vm := s.vm } : State) locs k n) : s.heap.size ≤ U.heap.size ∧ ∀ q : Nat, q < s.heap.size → (∀ z ∈ locs, z.base ≠ q) → U.heap[q]? = s.heap[q]? := by
  obtain ⟨-, h2, -, -, -, h6⟩ := h
  refine ⟨h2, fun q hq hz => ?_⟩
  obtain ⟨c9, e1, e2, e3, e4⟩ := h6 q _ (Array.getElem?_eq_getElem hq)
  have hs : c9.slots = (s.heap[q]).slots := Array.ext_getElem? fun i => e4 i fun hm => hz _ hm rfl
  have h9 : c9 = s.heap[q] := by
    rw [hs] at e2
    exact e2
  have e5 : U.heap[q]? = some c9 := e1
  rw [e5, h9, Array.getElem?_eq_getElem hq]
/-- the words of a throw but the four that speak of the heap -/
def vx_no (w : Cond) : Bool := decide (w ≠ .isRef (.static Bundle.tN "UNASSIGNED_STACK" Bundle.steD)) && decide (w ≠ .isRef (.static Bundle.tN "SUPPRESSED_SENTINEL" Bundle.listD)) && decide (w ≠ .laysStatic Bundle.tN "UNASSIGNED_STACK" Bundle.steD) && decide (w ≠ .laysStatic Bundle.tN "SUPPRESSED_SENTINEL" Bundle.listD)
def vx_at0 (own : String) (ic : Nat) (X : String) (names : List String) : List Cond := (Bundle.ownAtoms0 own ic X names).filter vx_no
def vx_atS (own : String) (ic : Nat) (X : String) (names : List String) : List Cond := (Bundle.ownAtoms own ic X names).filter vx_no
/-- a word that the tables alone decide, or a good one -/
def vx_ot (w : Cond) : Bool := w.onTables || goodWord w
theorem vx_ot_at {args a' : Array Value} {s U : State} {w : Cond} (hW : s.WarmedH U.vm) (hvm : s.vm = U.vm) (hg : vx_ot w = true) (h : w.before args s = true) : w.before a' U = true := by
  simp only [vx_ot, Bool.or_eq_true] at hg
  rcases hg with hg | hg
  · exact va_tabs hg hvm h
  · exact word_at hW (good_of_word hg) h
/-- a list's words: the good ones out of the method's own list, the others by premises of their own -/
theorem vx_hat {args : Array Value} {s : State} {L B : List Cond} (h1 : ∀ w ∈ L.filter goodWord, w.before args s = true) (h2 : ∀ w ∈ L.filter (fun w => !goodWord w), w ∈ B) (h3 : ∀ w ∈ B, w.before args s = true) : ∀ w ∈ L, w.before args s = true := by
  intro w hw
  by_cases g : goodWord w = true
  · exact h1 w (List.mem_filter.mpr ⟨hw, g⟩)
  · refine h3 w (h2 w (List.mem_filter.mpr ⟨hw, ?_⟩))
    show (!goodWord w) = true
    cases hgw : goodWord w
    · rfl
    · exact absurd hgw g
theorem vx_c {args : Array Value} {s : State} {w : Cond} {B : List Cond} (h : w.before args s = true) (t : ∀ w ∈ B, w.before args s = true) : ∀ w' ∈ w :: B, w'.before args s = true := fun w' h' => (List.mem_cons.mp h').elim (fun e => by rw [e]; exact h) (t w')
theorem vx_n {args : Array Value} {s : State} : ∀ w ∈ ([] : List Cond), w.before args s = true := fun _ h => nomatch h
theorem vx_own {args : Array Value} {s : State} {L : List Cond} (h1 : ∀ w ∈ L.filter vx_no, w.before args s = true)
    (hU : (Cond.isRef (.static Bundle.tN "UNASSIGNED_STACK" Bundle.steD)).before args s = true) (hN : (Cond.isRef (.static Bundle.tN "SUPPRESSED_SENTINEL" Bundle.listD)).before args s = true)
    (lU : (Cond.laysStatic Bundle.tN "UNASSIGNED_STACK" Bundle.steD).before args s = true) (lN : (Cond.laysStatic Bundle.tN "SUPPRESSED_SENTINEL" Bundle.listD).before args s = true) : ∀ w ∈ L, w.before args s = true := by
  intro w hw
  by_cases e1 : w = .isRef (.static Bundle.tN "UNASSIGNED_STACK" Bundle.steD)
  · rw [e1]; exact hU
  · by_cases e2 : w = .isRef (.static Bundle.tN "SUPPRESSED_SENTINEL" Bundle.listD)
    · rw [e2]; exact hN
    · by_cases e3 : w = .laysStatic Bundle.tN "UNASSIGNED_STACK" Bundle.steD
      · rw [e3]; exact lU
      · by_cases e4 : w = .laysStatic Bundle.tN "SUPPRESSED_SENTINEL" Bundle.listD
        · rw [e4]; exact lN
        · exact h1 w (List.mem_filter.mpr ⟨hw, by unfold vx_no; rw [decide_eq_true e1, decide_eq_true e2, decide_eq_true e3, decide_eq_true e4]; rfl⟩)
/-- where a static field lies, its class's statics cell in H -/
def vx_L (C n d : String) (A : Nat → Prop) (U : State) (H : Heap) : Prop := ∃ (c : ClassId) (k : Class) (i : Nat) (f : Field) (a : Nat) (cell : Cell), U.vm.findClass C = some c ∧ U.fieldFound? C n d = some (c, k, i, f) ∧ f.isStatic = true ∧ k.statics = some a ∧ H[a]? = some cell ∧ cell.vm.isStatics = true ∧ cell.cls = c ∧ f.slot < cell.slots.size ∧ k.staticTypes[f.slot]? = some f.type ∧ ¬ A a
theorem vx_L.moved {C n d : String} {A : Nat → Prop} {u U : State} {H : Heap} (hvm : u.vm.Alike U.vm) (h : vx_L C n d A u H) : vx_L C n d A U H := by
  obtain ⟨c, k, i, f, a, cell, h1, h2, h3, h4, h5, h6, h7, h8, h9, h10⟩ := h
  obtain ⟨k', hi', he⟩ := State.fieldFound?_setVm hvm h2
  exact ⟨c, k', i, f, a, cell, by rw [hvm.findClass]; exact h1, hi', h3, by rw [he]; exact h4, h5, h6, h7, h8, by rw [he]; exact h9, h10⟩
theorem vx_L.kept {C n d : String} {A : Nat → Prop} {U : State} {H H1 : Heap} (h : vx_L C n d A U H) (hq : ∀ a : Nat, a < H.size → ¬ A a → H1[a]? = H[a]?) : vx_L C n d A U H1 := by
  obtain ⟨c, k, i, f, a, cell, h1, h2, h3, h4, h5, h6, h7, h8, h9, h10⟩ := h
  exact ⟨c, k, i, f, a, cell, h1, h2, h3, h4, by rw [hq a (Array.getElem?_eq_some_iff.mp h5).1 h10]; exact h5, h6, h7, h8, h9, h10⟩
theorem vx_L.narrow {C n d : String} {A B : Nat → Prop} {U : State} {H : Heap} (h : vx_L C n d A U H) (hAB : ∀ q, B q → A q) : vx_L C n d B U H := by
  obtain ⟨c, k, i, f, a, cell, h1, h2, h3, h4, h5, h6, h7, h8, h9, h10⟩ := h
  exact ⟨c, k, i, f, a, cell, h1, h2, h3, h4, h5, h6, h7, h8, h9, fun z => h10 (hAB _ z)⟩
theorem vx_L.word {C n d : String} {A : Nat → Prop} {s : State} {args : Array Value} (h : vx_L C n d A s s.heap) : (Cond.laysStatic C n d).before args s = true := by
  obtain ⟨c, k, i, f, a, cell, h1, h2, h3, h4, h5, h6, h7, h8, h9, -⟩ := h
  show (Cond.laysStatic C n d).holds args s none s [] = true
  exact Cond.laysStatic_of h1 h2 h3 h4 h5 h6 h7 h8 h9
/-- .. and what it holds: null or some reference -/
def vx_Zq (C n d : String) (A : Nat → Prop) (U : State) (H : Heap) : Prop := va_Zq C n d A U H ∧ vx_L C n d A U H
theorem vx_Zq.moved {C n d : String} {A : Nat → Prop} {u U : State} {H : Heap} (hvm : u.vm.Alike U.vm) (h : vx_Zq C n d A u H) : vx_Zq C n d A U H := ⟨va_Zq.moved hvm h.1, vx_L.moved hvm h.2⟩
theorem vx_Zq.kept {C n d : String} {A : Nat → Prop} {U : State} {H H1 : Heap} (h : vx_Zq C n d A U H) (hq : ∀ a : Nat, a < H.size → ¬ A a → H1[a]? = H[a]?) : vx_Zq C n d A U H1 := ⟨va_Zq.kept h.1 hq, vx_L.kept h.2 hq⟩
theorem vx_Zq.narrow {C n d : String} {A B : Nat → Prop} {U : State} {H : Heap} (h : vx_Zq C n d A U H) (hAB : ∀ q, B q → A q) : vx_Zq C n d B U H := ⟨va_Zq.narrow h.1 hAB, vx_L.narrow h.2 hAB⟩
theorem vx_Zqof {args : Array Value} {s : State} {C n d : String} {A : Nat → Prop} (hl : (Cond.laysStatic C n d).before args s = true) (hini : (Cond.initialized C).before args s = true) (h : (Cond.isRef (.static C n d)).before args s = true) (hA : ∀ a : Nat, a < s.heap.size → ¬ A a) : vx_Zq C n d A s s.heap := by
  refine ⟨va_Zqof hl hini h hA, ?_⟩
  obtain ⟨c, k, i, f, a, cell, h1, h2, h3, h4, h5, h6, h7, h8, h9⟩ := Cond.laysStatic_spec hl
  exact ⟨c, k, i, f, a, cell, h1, h2, h3, h4, h5, h6, h7, h8, h9, hA a (Array.getElem?_eq_some_iff.mp h5).1⟩
theorem vx_isRef {C n d : String} {v : Value} {A : Nat → Prop} {s : State} {args : Array Value} (h : va_Z C n d v A s s.heap) (hv : v.isRef = true) : (Cond.isRef (.static C n d)).before args s = true := by
  obtain ⟨cf, kf, fi, f, a, cell, h1, h2, h3, h4, h5, h6, h7, -⟩ := h
  have he : (Term.static C n d).eval args s none [] s = some v := by
    simp [Term.eval, State.fieldNamed?, h1, h2, h4, h5, h6, h7]
  simp only [Cond.before, Cond.holds, Cond.value, he]
  cases v <;> simp_all [Value.isRef]
theorem vx_isRefq {C n d : String} {A : Nat → Prop} {s : State} {args : Array Value} (h : va_Zq C n d A s s.heap) : (Cond.isRef (.static C n d)).before args s = true := by
  rcases h with h | ⟨t, h⟩
  · exact vx_isRef h rfl
  · exact vx_isRef h rfl
/-- the same frame, seen from here: as if the method were called anew in this heap -/
theorem vx_rebase {T : State} (X : Stand p l e R s m args below meth c T locs cells slots) {R' : Room} (hf : R'.frames ≤ R.frames) (hl : R'.locals ≤ R.locals) (hc : cells + R'.cells ≤ R.cells) (hs : slots + R'.slots ≤ R.slots) :
    Stand p l e R' ((T.setVm s.vm).setFrames (.invoking m args :: below)) m args below meth c T [] 0 0 := by
  have htop : (T.setVm s.vm).topJava?.isSome := X.here.top
  have hF : ((T.setVm s.vm).setFrames (.invoking m args :: below)).frames = .invoking m args :: below := State.frames_setFrames _ (State.cur_lt_of_top htop)
  obtain ⟨g₀, hg0⟩ := Option.isSome_iff_exists.mp htop
  obtain ⟨r, hr⟩ := State.topJava?_eq_some.mp hg0
  have hl9 : e.platform.stackLimits (T.setVm s.vm).me = e.platform.stackLimits s.me := X.limits
  have hb9 : (T.setVm s.vm).me.stackBytes = s.me.stackBytes := X.bytes
  refine ⟨X.admits, X.cas, X.clock, hF, ?_, X.hears, X.method, X.code, X.here, X.tail, X.warmed, ?_, ?_, ?_⟩
  · have h := X.room
    have hU : ((T.setVm s.vm).setFrames (.invoking m args :: below)).localsInUse = s.localsInUse := by
      rw [State.localsInUse_invoking hF (meth := meth) (c := c) X.method X.code, State.localsInUse_invoking X.frames X.method X.code]
    simp only [State.hasRoom, Bool.and_eq_true, decide_eq_true_eq] at h ⊢
    obtain ⟨⟨⟨⟨h1, h2, h3, h4, h5, h6⟩, h7⟩, h8⟩, h9⟩ := h
    rw [X.frames, List.length_cons] at h2 h3
    have q1 := X.heapSize
    have q2 := X.used
    simp only [hF, hU, List.length_cons, State.stackLimits_setFrames, State.stackBytes_setFrames, hl9, hb9]
    refine ⟨⟨⟨⟨by omega, by omega, by omega, by omega, by omega, h6⟩, ?_⟩, ?_⟩, X.book⟩
    · show T.heap.size + R'.cells ≤ e.platform.maxCells
      omega
    · show T.slotsUsed + R'.slots ≤ e.platform.maxSlots
      omega
  · rw [State.stackLimits_setFrames]; rfl
  · rw [State.stackBytes_setFrames]; rfl
  · refine ⟨?_, Nat.le_refl _, Nat.le_refl _, ?_, ?_, fun a c9 h9 => ⟨c9, h9, rfl, rfl, fun _ _ => rfl⟩⟩
    · obtain ⟨t, ht, -⟩ := State.frames_cons hr
      show T.setVm s.vm = { ((T.setVm s.vm).setFrames (.invoking m args :: below)).setFrames (T.setVm s.vm).frames with heap := T.heap, slotsUsed := T.slotsUsed }
      rw [State.setFrames_setFrames, State.setFrames_self ht]
      rfl
    · show T.slotsUsed = T.slotsUsed + ((T.heap.toList.drop T.heap.size).map (·.slots.size)).sum
      rw [List.drop_eq_nil_of_le (Nat.le_of_eq Array.length_toList)]
      rfl
    · show ((T.heap.toList.drop T.heap.size).map (·.slots.size)).sum ≤ 0
      rw [List.drop_eq_nil_of_le (Nat.le_of_eq Array.length_toList)]
      exact Nat.le_refl _
/-- 'throw new E()': new; dup; invokespecial; athrow -/
theorem vx_throw0 {cc : ByteArray} {pc : Nat} (hexec : p.tables.exec = Jvm.exec) (hb : c.code = cc) (hl : l.stackTraces = false) {own cls : String} {names : List String} {ik ic mc ms : Nat} {A : Nat → Prop}
    (hown : s.vm.findClass own = some m.cls) (hcls : Bundle.fit cls = true) (hnames : ∀ n ∈ names, Bundle.fit n = true)
    (hk : (Cond.classLink own ik cls).before args s = true) (hini : (Cond.initialized cls).before args s = true) (hat : ∀ w ∈ vx_at0 own ic cls names, w.before args s = true)
    (hgood : ∀ w ∈ Cond.classLink own ik cls :: Cond.initialized cls :: vx_at0 own ic cls names, vx_ot w = true)
    (hU : vx_Zq Bundle.tN "UNASSIGNED_STACK" Bundle.steD A s s.heap) (hN : vx_Zq Bundle.tN "SUPPRESSED_SENTINEL" Bundle.listD A s s.heap) (hS : va_S A s.heap H locs) (hsize : ls.size = c.maxLocals)
    (d0 : decode cc pc = .ok (.new ik, 3)) (d3 : decode cc (pc + 3) = .ok (.dup, 1)) (d4 : decode cc (pc + 4) = .ok (.invokespecial ic, 3)) (d7 : decode cc (pc + 7) = .ok (.athrow, 1))
    (hout : ∀ x ∈ c.exceptionTable.toList, covers x (pc + 7) = false)
    (hRframes : names.length + 3 < R.frames) (hRlocals : (rest.map fun v => v.category).sum + (13 * (names.length + 1) + 42) ≤ R.locals) (hRcells : cells + 1 ≤ R.cells) (hRslots : slots + 6 ≤ R.slots) (hlocks : meth.locks = false)
    (hx : ∀ t : State, s.vm.Alike t.vm → H.size ≤ t.heap.size → (∀ q : Nat, q < H.size → t.heap[q]? = H[q]?) → XC cls s t)
    (hf : ∀ z ∈ locs, free z.base) (hc : cells + 1 ≤ mc) (hs : slots + 6 ≤ ms) :
    W p l e R s m args below meth c H locs cells slots (vx_MQ below Qc XC args s mc ms free) (F0 m pc ls rest) := by
  intro T hT X
  have htr : e.platform.stackTraces = false := (show e.platform.stackTraces = l.stackTraces by rw [X.admits.platform]).trans hl
  have Y := vx_rebase X (R' := { frames := R.frames, locals := R.locals, cells := 1, slots := 6 }) (Nat.le_refl _) (Nat.le_refl _) hRcells hRslots
  obtain ⟨s', hA⟩ : ∃ z, z = (T.setVm s.vm).setFrames (.invoking m args :: below) := ⟨_, rfl⟩
  rw [← hA] at Y
  have hvm : s'.vm = s.vm := by rw [hA]; rfl
  have hhp : s'.heap = H := by rw [hA]; exact hT
  have hW0 : s.WarmedH s'.vm := by rw [hvm]; exact State.WarmedH.refl s
  have hat' : ∀ w ∈ vx_at0 own ic cls names, w.before args s' = true := fun w hw => vx_ot_at hW0 hvm.symm (hgood w (List.mem_cons_of_mem _ (List.mem_cons_of_mem _ hw))) (hat w hw)
  have hk' : (Cond.classLink own ik cls).before args s' = true := vx_ot_at hW0 hvm.symm (hgood _ List.mem_cons_self) hk
  have hini' : (Cond.initialized cls).before args s' = true := vx_ot_at hW0 hvm.symm (hgood _ (List.mem_cons_of_mem _ List.mem_cons_self)) hini
  have hU' : vx_Zq Bundle.tN "UNASSIGNED_STACK" Bundle.steD A s' s'.heap := by rw [hhp]; exact vx_Zq.moved hW0.alike (hU.kept hS.2.1)
  have hN' : vx_Zq Bundle.tN "SUPPRESSED_SENTINEL" Bundle.listD A s' s'.heap := by rw [hhp]; exact vx_Zq.moved hW0.alike (hN.kept hS.2.1)
  have h : ∀ w ∈ Bundle.ownAtoms0 own ic cls names, w.before args s' = true := vx_own hat' (vx_isRefq hU'.1) (vx_isRefq hN'.1) hU'.2.word hN'.2.word
  have hown' : s'.vm.findClass own = some m.cls := by rw [hvm]; exact hown
  have hins : (Cond.instantiable cls 6).before args s' = true := h _ (by simp [Bundle.ownAtoms0])
  obtain ⟨vm₁, cX, kX, hfX, hkX, -, -, X₁, st1⟩ := Y.newCold hexec (own := own) (C := cls) (index := ik) (n := 6) hown' hk' hins hini'
    (g := F0 m pc ls rest) rfl (by rw [hb]; exact d0) (Nat.le_refl _) (Nat.le_refl _)
  generalize hT1 : (T.setVm vm₁).pushCell { cls := cX, slots := kX.instanceTypes.map defaultValue, vm := .none } = T1 at X₁ st1
  have hcat : (Value.ref T.heap.size).category = 1 := rfl
  have hcellA : T1.heap[T.heap.size]? = some (freshCell cX kX) := by rw [← hT1]; exact State.heap_pushCell_size _ _
  have d3' : decode c.code (pc + 3) = .ok (.dup, 1) := by rw [hb]; exact d3
  obtain ⟨U, hsteps, hrun, hend, hW, hsame, ce, hce, hO⟩ := X₁.ctorThrow0 hexec htr (own := own) (cls := cls) (names := names) (ic := ic) hown' hcls hnames h (fun x hx => nomatch hx) hfX hkX hcellA (by rw [hhp, hT]; exact Nat.le_refl _)
    (g := { method := m, pc := pc + 4, locals := ls, stack := .ref T.heap.size :: .ref T.heap.size :: rest, locked := none }) rfl hsize rfl rfl (rest := rest) rfl
    (by rw [hb]; exact d4) (by rw [hb]; exact d7) hout hRframes (by simp only [List.map_cons, List.sum_cons, hcat]; omega) hlocks
  obtain ⟨f1, f2⟩ := vx_frame hsame
  rw [hhp] at f1 f2
  have hWs : s.WarmedH U.vm := State.WarmedH.trans hW0 hW
  have hcl : s.vm.findClass cls = some ce.cls := by
    have h9 := hO.cls
    rw [hvm] at h9
    exact h9
  have hall : s.sameButNew ({ U with vm := s.vm } : State) locs mc ms := by
    subst hA
    obtain ⟨e1, e2⟩ := hsame
    rw [State.setFrames_setFrames] at e1
    have h2 : (T.setVm s.vm).sameButNew ({ U with vm := s.vm } : State) [] (0 + 1) (0 + 6) := ⟨e1, e2⟩
    have h3 := X.same.trans h2
    rw [List.append_nil] at h3
    exact h3.mono hc hs
  refine ⟨U, ?_, .threw T.heap.size, hrun, hend, Or.inr ⟨T.heap.size, rfl, cls, ce, locs, hx U hWs.alike f1 (fun q hq => f2 q hq (fun z hz => nomatch hz)), hce, hO.vm, hcl, hWs, hall, hf⟩⟩
  refine st1 _ ?_
  show Steps p.tables e below (T1.setTop { method := m, pc := pc + 3, locals := ls, stack := .ref T.heap.size :: rest, locked := none }) _
  jvm_step X₁.here [X₁.here.top, hexec, d3', Value.category]
  exact hsteps
/-- 'throw new E("text")': new; dup; ldc; invokespecial; athrow -/
theorem vx_throwS {cc : ByteArray} {pc : Nat} (hexec : p.tables.exec = Jvm.exec) (hb : c.code = cc) (hl : l.stackTraces = false) {own cls text : String} {names : List String} {ik is ic mc ms sa : Nat} {A : Nat → Prop}
    (hown : s.vm.findClass own = some m.cls) (hcls : Bundle.fit cls = true) (hnames : ∀ n ∈ names, Bundle.fit n = true)
    (hk : (Cond.classLink own ik cls).before args s = true) (hini : (Cond.initialized cls).before args s = true) (hstr : vk_R own is text sa s) (hat : ∀ w ∈ vx_atS own ic cls names, w.before args s = true)
    (hgood : ∀ w ∈ Cond.classLink own ik cls :: Cond.initialized cls :: vx_atS own ic cls names, vx_ot w = true)
    (hU : vx_Zq Bundle.tN "UNASSIGNED_STACK" Bundle.steD A s s.heap) (hN : vx_Zq Bundle.tN "SUPPRESSED_SENTINEL" Bundle.listD A s s.heap) (hS : va_S A s.heap H locs) (hsize : ls.size = c.maxLocals)
    (d0 : decode cc pc = .ok (.new ik, 3)) (d3 : decode cc (pc + 3) = .ok (.dup, 1)) (d4 : decode cc (pc + 4) = .ok (.ldc is, 2)) (d6 : decode cc (pc + 6) = .ok (.invokespecial ic, 3)) (d9 : decode cc (pc + 9) = .ok (.athrow, 1))
    (hout : ∀ x ∈ c.exceptionTable.toList, covers x (pc + 9) = false)
    (hRframes : names.length + 3 < R.frames) (hRlocals : (rest.map fun v => v.category).sum + (13 * (names.length + 1) + 43) ≤ R.locals) (hRcells : cells + 1 ≤ R.cells) (hRslots : slots + 6 ≤ R.slots) (hlocks : meth.locks = false)
    (hx : ∀ t : State, s.vm.Alike t.vm → H.size ≤ t.heap.size → (∀ q : Nat, q < H.size → t.heap[q]? = H[q]?) → XC cls s t)
    (hf : ∀ z ∈ locs, free z.base) (hc : cells + 1 ≤ mc) (hs : slots + 6 ≤ ms) :
    W p l e R s m args below meth c H locs cells slots (vx_MQ below Qc XC args s mc ms free) (F0 m pc ls rest) := by
  intro T hT X
  have htr : e.platform.stackTraces = false := (show e.platform.stackTraces = l.stackTraces by rw [X.admits.platform]).trans hl
  have Y := vx_rebase X (R' := { frames := R.frames, locals := R.locals, cells := 1, slots := 6 }) (Nat.le_refl _) (Nat.le_refl _) hRcells hRslots
  obtain ⟨s', hA⟩ : ∃ z, z = (T.setVm s.vm).setFrames (.invoking m args :: below) := ⟨_, rfl⟩
  rw [← hA] at Y
  have hvm : s'.vm = s.vm := by rw [hA]; rfl
  have hhp : s'.heap = H := by rw [hA]; exact hT
  have hW0 : s.WarmedH s'.vm := by rw [hvm]; exact State.WarmedH.refl s
  have hat' : ∀ w ∈ vx_atS own ic cls names, w.before args s' = true := fun w hw => vx_ot_at hW0 hvm.symm (hgood w (List.mem_cons_of_mem _ (List.mem_cons_of_mem _ hw))) (hat w hw)
  have hk' : (Cond.classLink own ik cls).before args s' = true := vx_ot_at hW0 hvm.symm (hgood _ List.mem_cons_self) hk
  have hini' : (Cond.initialized cls).before args s' = true := vx_ot_at hW0 hvm.symm (hgood _ (List.mem_cons_of_mem _ List.mem_cons_self)) hini
  have hU' : vx_Zq Bundle.tN "UNASSIGNED_STACK" Bundle.steD A s' s'.heap := by rw [hhp]; exact vx_Zq.moved hW0.alike (hU.kept hS.2.1)
  have hN' : vx_Zq Bundle.tN "SUPPRESSED_SENTINEL" Bundle.listD A s' s'.heap := by rw [hhp]; exact vx_Zq.moved hW0.alike (hN.kept hS.2.1)
  have h : ∀ w ∈ Bundle.ownAtoms own ic cls names, w.before args s' = true := vx_own hat' (vx_isRefq hU'.1) (vx_isRefq hN'.1) hU'.2.word hN'.2.word
  have hown' : s'.vm.findClass own = some m.cls := by rw [hvm]; exact hown
  have hins : (Cond.instantiable cls 6).before args s' = true := h _ (by simp [Bundle.ownAtoms])
  obtain ⟨vm₁, cX, kX, hfX, hkX, -, -, X₁, st1⟩ := Y.newCold hexec (own := own) (C := cls) (index := ik) (n := 6) hown' hk' hins hini'
    (g := F0 m pc ls rest) rfl (by rw [hb]; exact d0) (Nat.le_refl _) (Nat.le_refl _)
  generalize hT1 : (T.setVm vm₁).pushCell { cls := cX, slots := kX.instanceTypes.map defaultValue, vm := .none } = T1 at X₁ st1
  have hcat : (Value.ref T.heap.size).category = 1 := rfl
  have hcellA : T1.heap[T.heap.size]? = some (freshCell cX kX) := by rw [← hT1]; exact State.heap_pushCell_size _ _
  have d3' : decode c.code (pc + 3) = .ok (.dup, 1) := by rw [hb]; exact d3
  have d4' : decode c.code (pc + 4) = .ok (.ldc is, 2) := by rw [hb]; exact d4
  have hstr' : vk_R own is text sa s' := vk_R.warm hW0 hstr
  obtain ⟨U, hsteps, hrun, hend, hW, hsame, ce, hce, hO⟩ := X₁.ctorThrowS hexec htr (own := own) (cls := cls) (names := names) (ic := ic) hown' hcls hnames h (fun x hx => nomatch hx) hfX hkX hcellA (by rw [hhp, hT]; exact Nat.le_refl _) (msg := .ref sa) rfl
    (g := { method := m, pc := pc + 6, locals := ls, stack := .ref sa :: .ref T.heap.size :: .ref T.heap.size :: rest, locked := none }) rfl hsize rfl rfl (rest := rest) rfl
    (by rw [hb]; exact d6) (by rw [hb]; exact d9) hout hRframes (by simp only [List.map_cons, List.sum_cons, hcat]; omega) hlocks
  obtain ⟨f1, f2⟩ := vx_frame hsame
  rw [hhp] at f1 f2
  have hWs : s.WarmedH U.vm := State.WarmedH.trans hW0 hW
  have hcl : s.vm.findClass cls = some ce.cls := by
    have h9 := hO.cls
    rw [hvm] at h9
    exact h9
  have hall : s.sameButNew ({ U with vm := s.vm } : State) locs mc ms := by
    subst hA
    obtain ⟨e1, e2⟩ := hsame
    rw [State.setFrames_setFrames] at e1
    have h2 : (T.setVm s.vm).sameButNew ({ U with vm := s.vm } : State) [] (0 + 1) (0 + 6) := ⟨e1, e2⟩
    have h3 := X.same.trans h2
    rw [List.append_nil] at h3
    exact h3.mono hc hs
  refine ⟨U, ?_, .threw T.heap.size, hrun, hend, Or.inr ⟨T.heap.size, rfl, cls, ce, locs, hx U hWs.alike f1 (fun q hq => f2 q hq (fun z hz => nomatch hz)), hce, hO.vm, hcl, hWs, hall, hf⟩⟩
  refine st1 _ ?_
  show Steps p.tables e below (T1.setTop { method := m, pc := pc + 3, locals := ls, stack := .ref T.heap.size :: rest, locked := none }) _
  jvm_step X₁.here [X₁.here.top, hexec, d3', Value.category]
  exact X₁.ldcString hexec (own := own) (text := text) (index := is) (a := sa) hown' hstr'.1 hstr'.2
    (g := { method := m, pc := pc + 4, locals := ls, stack := .ref T.heap.size :: .ref T.heap.size :: rest, locked := none }) rfl d4' _ hsteps
/-- 'throw new E("text")', the text by a wide index -/
theorem vx_throwSW {cc : ByteArray} {pc : Nat} (hexec : p.tables.exec = Jvm.exec) (hb : c.code = cc) (hl : l.stackTraces = false) {own cls text : String} {names : List String} {ik is ic mc ms sa : Nat} {A : Nat → Prop}
    (hown : s.vm.findClass own = some m.cls) (hcls : Bundle.fit cls = true) (hnames : ∀ n ∈ names, Bundle.fit n = true)
    (hk : (Cond.classLink own ik cls).before args s = true) (hini : (Cond.initialized cls).before args s = true) (hstr : vk_R own is text sa s) (hat : ∀ w ∈ vx_atS own ic cls names, w.before args s = true)
    (hgood : ∀ w ∈ Cond.classLink own ik cls :: Cond.initialized cls :: vx_atS own ic cls names, vx_ot w = true)
    (hU : vx_Zq Bundle.tN "UNASSIGNED_STACK" Bundle.steD A s s.heap) (hN : vx_Zq Bundle.tN "SUPPRESSED_SENTINEL" Bundle.listD A s s.heap) (hS : va_S A s.heap H locs) (hsize : ls.size = c.maxLocals)
    (d0 : decode cc pc = .ok (.new ik, 3)) (d3 : decode cc (pc + 3) = .ok (.dup, 1)) (d4 : decode cc (pc + 4) = .ok (.ldc_w is, 3)) (d7 : decode cc (pc + 7) = .ok (.invokespecial ic, 3)) (d10 : decode cc (pc + 10) = .ok (.athrow, 1))
    (hout : ∀ x ∈ c.exceptionTable.toList, covers x (pc + 10) = false)
    (hRframes : names.length + 3 < R.frames) (hRlocals : (rest.map fun v => v.category).sum + (13 * (names.length + 1) + 43) ≤ R.locals) (hRcells : cells + 1 ≤ R.cells) (hRslots : slots + 6 ≤ R.slots) (hlocks : meth.locks = false)
    (hx : ∀ t : State, s.vm.Alike t.vm → H.size ≤ t.heap.size → (∀ q : Nat, q < H.size → t.heap[q]? = H[q]?) → XC cls s t)
    (hf : ∀ z ∈ locs, free z.base) (hc : cells + 1 ≤ mc) (hs : slots + 6 ≤ ms) :
    W p l e R s m args below meth c H locs cells slots (vx_MQ below Qc XC args s mc ms free) (F0 m pc ls rest) := by
  intro T hT X
  have htr : e.platform.stackTraces = false := (show e.platform.stackTraces = l.stackTraces by rw [X.admits.platform]).trans hl
  have Y := vx_rebase X (R' := { frames := R.frames, locals := R.locals, cells := 1, slots := 6 }) (Nat.le_refl _) (Nat.le_refl _) hRcells hRslots
  obtain ⟨s', hA⟩ : ∃ z, z = (T.setVm s.vm).setFrames (.invoking m args :: below) := ⟨_, rfl⟩
  rw [← hA] at Y
  have hvm : s'.vm = s.vm := by rw [hA]; rfl
  have hhp : s'.heap = H := by rw [hA]; exact hT
  have hW0 : s.WarmedH s'.vm := by rw [hvm]; exact State.WarmedH.refl s
  have hat' : ∀ w ∈ vx_atS own ic cls names, w.before args s' = true := fun w hw => vx_ot_at hW0 hvm.symm (hgood w (List.mem_cons_of_mem _ (List.mem_cons_of_mem _ hw))) (hat w hw)
  have hk' : (Cond.classLink own ik cls).before args s' = true := vx_ot_at hW0 hvm.symm (hgood _ List.mem_cons_self) hk
  have hini' : (Cond.initialized cls).before args s' = true := vx_ot_at hW0 hvm.symm (hgood _ (List.mem_cons_of_mem _ List.mem_cons_self)) hini
  have hU' : vx_Zq Bundle.tN "UNASSIGNED_STACK" Bundle.steD A s' s'.heap := by rw [hhp]; exact vx_Zq.moved hW0.alike (hU.kept hS.2.1)
  have hN' : vx_Zq Bundle.tN "SUPPRESSED_SENTINEL" Bundle.listD A s' s'.heap := by rw [hhp]; exact vx_Zq.moved hW0.alike (hN.kept hS.2.1)
  have h : ∀ w ∈ Bundle.ownAtoms own ic cls names, w.before args s' = true := vx_own hat' (vx_isRefq hU'.1) (vx_isRefq hN'.1) hU'.2.word hN'.2.word
  have hown' : s'.vm.findClass own = some m.cls := by rw [hvm]; exact hown
  have hins : (Cond.instantiable cls 6).before args s' = true := h _ (by simp [Bundle.ownAtoms])
  obtain ⟨vm₁, cX, kX, hfX, hkX, -, -, X₁, st1⟩ := Y.newCold hexec (own := own) (C := cls) (index := ik) (n := 6) hown' hk' hins hini'
    (g := F0 m pc ls rest) rfl (by rw [hb]; exact d0) (Nat.le_refl _) (Nat.le_refl _)
  generalize hT1 : (T.setVm vm₁).pushCell { cls := cX, slots := kX.instanceTypes.map defaultValue, vm := .none } = T1 at X₁ st1
  have hcat : (Value.ref T.heap.size).category = 1 := rfl
  have hcellA : T1.heap[T.heap.size]? = some (freshCell cX kX) := by rw [← hT1]; exact State.heap_pushCell_size _ _
  have d3' : decode c.code (pc + 3) = .ok (.dup, 1) := by rw [hb]; exact d3
  have d4' : decode c.code (pc + 4) = .ok (.ldc_w is, 3) := by rw [hb]; exact d4
  have hstr' : vk_R own is text sa s' := vk_R.warm hW0 hstr
  obtain ⟨U, hsteps, hrun, hend, hW, hsame, ce, hce, hO⟩ := X₁.ctorThrowS hexec htr (own := own) (cls := cls) (names := names) (ic := ic) hown' hcls hnames h (fun x hx => nomatch hx) hfX hkX hcellA (by rw [hhp, hT]; exact Nat.le_refl _) (msg := .ref sa) rfl
    (g := { method := m, pc := pc + 7, locals := ls, stack := .ref sa :: .ref T.heap.size :: .ref T.heap.size :: rest, locked := none }) rfl hsize rfl rfl (rest := rest) rfl
    (by rw [hb]; exact d7) (by rw [hb]; exact d10) hout hRframes (by simp only [List.map_cons, List.sum_cons, hcat]; omega) hlocks
  obtain ⟨f1, f2⟩ := vx_frame hsame
  rw [hhp] at f1 f2
  have hWs : s.WarmedH U.vm := State.WarmedH.trans hW0 hW
  have hcl : s.vm.findClass cls = some ce.cls := by
    have h9 := hO.cls
    rw [hvm] at h9
    exact h9
  have hall : s.sameButNew ({ U with vm := s.vm } : State) locs mc ms := by
    subst hA
    obtain ⟨e1, e2⟩ := hsame
    rw [State.setFrames_setFrames] at e1
    have h2 : (T.setVm s.vm).sameButNew ({ U with vm := s.vm } : State) [] (0 + 1) (0 + 6) := ⟨e1, e2⟩
    have h3 := X.same.trans h2
    rw [List.append_nil] at h3
    exact h3.mono hc hs
  refine ⟨U, ?_, .threw T.heap.size, hrun, hend, Or.inr ⟨T.heap.size, rfl, cls, ce, locs, hx U hWs.alike f1 (fun q hq => f2 q hq (fun z hz => nomatch hz)), hce, hO.vm, hcl, hWs, hall, hf⟩⟩
  refine st1 _ ?_
  show Steps p.tables e below (T1.setTop { method := m, pc := pc + 3, locals := ls, stack := .ref T.heap.size :: rest, locked := none }) _
  jvm_step X₁.here [X₁.here.top, hexec, d3', Value.category]
  exact X₁.ldcStringW hexec (own := own) (text := text) (index := is) (a := sa) hown' hstr'.1 hstr'.2
    (g := { method := m, pc := pc + 4, locals := ls, stack := .ref T.heap.size :: .ref T.heap.size :: rest, locked := none }) rfl d4' _ hsteps
end Ends
section Bodies
variable {l : Launch}
theorem vx_ofW {y : MethodName} {ws ws' : List Cond} {rm : Room} {Pc : Array Value → State → Prop} {Qc : Array Value → State → Outcome → State → Prop} {XC : String → State → State → Prop} {mc ms : Nat} {free : Addr → Prop} {cc : ByteArray} {maxL : Nat} {ret : Option FieldType}
    (hy : plainName y.cls = true) (hw : ws = Cond.code y cc maxL ret :: ws')
    (body : ∀ p e s m args below meth c s₁, BodyLoose p l y (headSpec ws rm) cc maxL ret e s m args below meth c s₁ → c.maxLocals = maxL → (∀ x ∈ c.exceptionTable.toList, False) → Pc args s →
      W p l e (headSpec ws rm).room s m args below meth c s.heap [] 0 0 (vx_MQ below Qc XC args s mc ms free) (entryFrame m args maxL)) : vx_Met l y ws rm Pc Qc XC mc ms free := by
  refine MetFree.of_bodyS (code := cc) (maxLocals := maxL) (ret := ret) hy ?_ ?_
  · intro args s m h hn
    obtain ⟨meth, c, h1, h2, h3, h4, h5, h6, -, -⟩ := Cond.code_spec hn (atoms_spec (ws := ws) h _ (by rw [hw]; exact List.mem_cons_self))
    exact ⟨meth, c, h1, h2, h3, h4, h5, h6⟩
  · intro p e s m args below meth c s₁ B hml hP _
    have hh0 : s₁.heap = s.heap := by rw [B.state]; rfl
    have ht : ∀ x ∈ c.exceptionTable.toList, False := by
      obtain ⟨meth9, c9, h1, h2, -, -, -, -, h7, -⟩ := Cond.code_spec B.named (atoms_spec (ws := ws) B.pre _ (by rw [hw]; exact List.mem_cons_self))
      cases Option.some.inj (h1.symm.trans B.method)
      cases Option.some.inj (h2.symm.trans (Stand.of_body B).code)
      intro x hx
      rw [Array.isEmpty_iff.mp h7] at hx
      cases hx
    obtain ⟨t, a1, o, b1, b2, b3⟩ := body p e s m args below meth c s₁ B hml ht hP s₁ hh0 (Stand.of_body B)
    exact ⟨t, o, a1, b1, b2, b3⟩
/-- the table of a body with handlers -/
theorem vx_table {p : Program} {x y : MethodName} {S : Spec} {cc bytes : ByteArray} {maxL maxL' : Nat} {ret ret' : Option FieldType} {e : Env} {s s₁ : State} {m : MethodId} {args : Array Value} {below : List Frame} {meth : Method} {c : Code} {hh : List (Nat × Nat × Nat × Nat)}
    (B : BodyLoose p l y S cc maxL ret e s m args below meth c s₁) (h : (Cond.codeWith y bytes maxL' ret' hh).before args s = true) : c.exceptionTable.toList = tableOf hh := by
  obtain ⟨m9, meth9, c9, hn9, h1, h2, -, -, h6, -⟩ := Cond.codeWith_spec h
  cases Option.some.inj (hn9.symm.trans B.named)
  cases Option.some.inj (h1.symm.trans B.method)
  cases Option.some.inj (h2.symm.trans (Stand.of_body B).code)
  rw [← h6, table_eq]
end Bodies
end VXA
/-! ===== END ===== -/
/-! ===== BEGIN a static call of a method with an exception table ===== -/
section VXS
variable {p : Program} {l : Launch} {e : Env} {R : Room} {s : State} {m : MethodId} {args : Array Value} {below : List Frame} {meth : Method} {c : Code} {T : State} {H : Heap} {locs : List Loc} {cells slots : Nat}
abbrev vx_CSW (R : Room) (s : State) (args : Array Value) (own : String) (index : Nat) (y : MethodName) (bytes : ByteArray) (maxL : Nat) (ret : Option FieldType) (hh : List (Nat × Nat × Nat × Nat)) (ws : List Cond) (rm : Room) (mc ms n : Nat) : Prop :=
  (rm.cells = mc ∧ rm.slots = ms ∧ rm.frames + 1 ≤ R.frames ∧ 8 + (maxL + 11) + rm.locals ≤ R.locals ∧ (∀ w ∈ ws, ∀ (a' : Array Value) (U : State), s.WarmedH U.vm → w.before a' U = true) ∧ Cond.codeWith y bytes maxL ret hh ∈ ws) ∧
  (Cond.codeWith y bytes maxL ret hh).before args s = true ∧ (Cond.initialized y.cls).before args s = true ∧ (y.cls ≠ "java/lang/invoke/MethodHandle" ∧ y.cls ≠ "java/lang/invoke/VarHandle") ∧
  (∀ sig, parseMethodDescriptor y.desc = some sig → n = sig.parameters.length) ∧ (Cond.methodLink own index y).before args s = true ∧ (Cond.static y).before args s = true
theorem vx_cwSW {own : String} {index maxL mc ms : Nat} {y : MethodName} {bytes : ByteArray} {ret : Option FieldType} {hh : List (Nat × Nat × Nat × Nat)} {Ts ws ws' : List Cond} {rm : Room} (n : Nat) (ht : ∀ w ∈ Ts, w.before args s = true) (hT : GoodIn Ts (va_wsS own index y ws)) (hw : ws = Cond.codeWith y bytes maxL ret hh :: ws') (hrc : rm.cells = mc) (hrs : rm.slots = ms)
    (hd : y.cls ≠ "java/lang/invoke/MethodHandle" ∧ y.cls ≠ "java/lang/invoke/VarHandle" ∧ (parseMethodDescriptor y.desc).map (fun d => d.parameters.length) = some n) (hR : rm.frames + 1 ≤ R.frames ∧ 8 + (maxL + 11) + rm.locals ≤ R.locals) :
    vx_CSW R s args own index y bytes maxL ret hh ws rm mc ms n := by
  have ok : ∀ w ∈ va_wsS own index y ws, w.before args s = true := fun w h => ht w (hT w h).1
  have hG : GoodIn Ts ws := fun w h => hT w (by unfold va_wsS; exact List.mem_append_right _ h)
  have hc : Cond.codeWith y bytes maxL ret hh ∈ ws := by rw [hw]; exact List.mem_cons_self
  refine ⟨⟨hrc, hrs, hR.1, hR.2, pay_in ht hG, hc⟩, ht _ (hG _ hc).1, ok _ (by simp [va_wsS]), ⟨hd.1, hd.2.1⟩, fun sig h => ?_, ok _ (by simp [va_wsS]), ok _ (by simp [va_wsS])⟩
  have h2 := hd.2.2
  rw [h] at h2
  exact (Option.some.inj h2).symm
theorem vx_callSW (X : Stand p l e R s m args below meth c T locs cells slots) (hexec : p.tables.exec = Jvm.exec) {own : String} {index : Nat} {y : MethodName} {bytes : ByteArray} {maxL : Nat} {ret : Option FieldType} {hh : List (Nat × Nat × Nat × Nat)}
    (hown : s.vm.findClass own = some m.cls) (hlink : (Cond.methodLink own index y).before args s = true) (hstat : (Cond.static y).before args s = true) (hinit : (Cond.initialized y.cls).before args s = true)
    (hcode : (Cond.codeWith y bytes maxL ret hh).before args s = true) (hy : y.cls ≠ "java/lang/invoke/MethodHandle" ∧ y.cls ≠ "java/lang/invoke/VarHandle")
    {W9 : Nat} {Pre : Pt → Array Value → Prop} {Post : Pt → Array Value → Option Value → Pt → Prop} (hK : Back l R p e below s args y 3 W9 Pre Post)
    {g : JFrame} (hg : g.method = m) (hsize : g.locals.size = c.maxLocals) {argsL rest : List Value} (hlen : ∀ sig, parseMethodDescriptor y.desc = some sig → argsL.length = sig.parameters.length)
    (hstack : g.stack = argsL.reverse ++ rest) (hW : 2 * g.monitorRoom + (rest.map fun v => v.category).sum ≤ W9) (hdg : decode c.code g.pc = .ok (.invokestatic index, 3))
    (hpre : ∀ vm₁, s.WarmedH vm₁ → Pre ⟨T.setVm vm₁, locs, cells, slots⟩ argsL.toArray) :
    ∃ (v : Option Value) (vm₁ : Vm) (B : Pt), s.WarmedH vm₁ ∧ Stand p l e R s m args below meth c B.U B.locs B.cells B.slots ∧ Post ⟨T.setVm vm₁, locs, cells, slots⟩ argsL.toArray v B ∧
      ∀ target, Steps p.tables e below (B.U.setTop { g with pc := g.pc + 3, stack := v.toList ++ rest }) target → Steps p.tables e below (T.setTop g) target := by
  obtain ⟨mk, methM, cM, hnamed, hmethM, -, -, -, -, -, -, hsigM⟩ := Cond.codeWith_spec hcode
  have hstatic : methM.isStatic = true := Cond.static_spec hnamed hmethM hstat
  obtain ⟨kP, hkP, -⟩ := className_of_methodNamed hnamed
  have hinitP : kP.init = .initialized := Cond.initialized_spec (findClass_of_methodNamed hnamed) hkP hinit
  obtain ⟨vm₁, X₁, hstep₁⟩ := X.invokestatic hexec hown hlink hnamed hmethM hstatic hkP hinitP hy (g := g) hg (argsL := argsL) (rest := rest) (hlen _ hsigM) hstack hdg
  obtain ⟨v, B, X', hpost, hsteps⟩ := hK m meth c ⟨T.setVm vm₁, locs, cells, slots⟩ { g with stack := rest } (.invokestatic index) mk argsL.toArray X₁ hg hsize hdg hW (X₁.named hnamed) (hpre vm₁ X₁.warmed)
  exact ⟨v, vm₁, B, X₁.warmed, X', hpost, fun target h => hstep₁ _ fun acts => by rw [doInvoke_state]; exact hsteps.trans h⟩
theorem vx_runSW {y : MethodName} {bytes cc : ByteArray} {maxL nL mc ms n index : Nat} {ret : Option FieldType} {hh : List (Nat × Nat × Nat × Nat)} {ws : List Cond} {rm : Room} {Pc : Array Value → State → Prop} {Qc : Array Value → State → Outcome → State → Prop} {free : Addr → Prop} {Ts : List Cond} {own : String} {As rest : List Value} {g : JFrame}
    (S : CallFix p m c cc nL s args Ts own) (hM : Met l y ws rm Pc Qc mc ms free) (cw : vx_CSW R s args own index y bytes maxL ret hh ws rm mc ms n) (hp : PreS s H Pc As)
    (hg : g.method = m) (hn : As.length = n) (hsize : g.locals.size = nL) (hstack : g.stack = As.reverse ++ rest) (hW : 2 * g.monitorRoom + (rest.map fun v => v.category).sum ≤ 8) (hdg : decode cc g.pc = .ok (.invokestatic index, 3)) (hf : cells + mc ≤ R.cells ∧ slots + ms ≤ R.slots) :
    va_Run p l e R s m args below meth c H locs cells slots mc ms g rest (Qc As.toArray) (free) := by
  obtain ⟨⟨hrc, hrs, hfr, hlo, hws, hcw⟩, hcode, hini, hy, hlen, hl, hstt⟩ := cw
  have hK : Back l R p e below s args y 3 8 (PreOf R mc ms Pc) (PostOf Qc mc ms free) := va_backW (hh := hh) (bytes := bytes) (maxL := maxL) (ret := ret) hM hp.1 hrc hrs hfr hlo hws hcw (fun a' U hW => word_at hW (Or.inl (by first | rfl | simp [Cond.onTables, Cond.keeps, Cond.steady])) hini)
  obtain ⟨hx, hb, hml, ho, -⟩ := S
  intro T hT X
  obtain ⟨v, vm₁, ⟨U', l2, c2, s2⟩, hW₁, X', ⟨g', mk, t, L, e1, e2, hq, h1, hL, h2, h3⟩, st⟩ := vx_callSW X hx (hh := hh) (bytes := bytes) (maxL := maxL) (ret := ret) ho hl hstt hini hcode hy hK hg (hsize.trans hml.symm) (argsL := As) (rest := rest) (fun sig h => hn.trans (hlen sig h)) hstack hW (by rw [hb]; exact hdg)
    (fun vm₁ hW₁ => ⟨hf.1, hf.2, hp.2 (T.setVm vm₁) hT hW₁⟩)
  dsimp only [Pt.U, Pt.locs, Pt.cells, Pt.slots] at X' e1 e2 h1 h2 h3 st
  subst h1; subst h2; subst h3
  exact ⟨v, (T.setVm vm₁).calling g' mk As.toArray, t, U', L, hT, X', hL, e1, e2, hq, st⟩
/-- not caught here, past rows that name other classes: it goes on to the caller -/
theorem vx_outP {p : Program} {l : Launch} {e : Env} {R : Room} {s : State} {m : MethodId} {args : Array Value} {below : List Frame} {meth : Method} {c : Code} {H : Heap} {locs : List Loc} {cells slots : Nat} {free : Addr → Prop} {ls : Array Slot} {rest : List Value} {Qc : Array Value → State → Outcome → State → Prop} {XC : String → State → State → Prop}
    {pc : Nat} {own E : String} {ce : Cell} {q : Addr} {mc ms : Nat} (hown : s.vm.findClass own = some m.cls) (hlocks : meth.locks = false)
    (hpass : ∀ z ∈ c.exceptionTable.toList, covers z pc = false ∨ (z.catchType ≠ 0 ∧ ∃ nm : String, (Cond.classLink own z.catchType nm).before args s = true ∧ va_Nc E nm s)) (hcell : H[q]? = some ce) (hv : ce.vm = .none) (hcl : s.vm.findClass E = some ce.cls)
    (hx : ∀ t : State, t.heap = H → s.vm.Alike t.vm → XC E s t) (hf : ∀ z ∈ locs, free z.base) (hc : cells ≤ mc) (hs : slots ≤ ms) :
    vx_W p l e R s m args below meth c H locs cells slots (vx_MQ below Qc XC args s mc ms free) (F0 m pc ls rest) q := by
  intro T hT X
  have hpl : e.platform.magicAccessors = ({} : Platform).magicAccessors := by rw [X.admits.platform]
  obtain ⟨vm', hW', X', st⟩ := Jvm.Stand.outThrough X hlocks q (g := F0 m pc ls rest) rfl rfl rfl (cell := ce) (by rw [hT]; exact hcell) (by rw [hv]; rfl)
    (by obtain ⟨k9, h9, -⟩ := Vm.findClass_spec hcl; exact ⟨k9, h9⟩) (fun z hz => by
      rcases hpass z hz with h | ⟨hz0, nm, hl1, hn1⟩
      · exact Or.inl h
      · obtain ⟨c6, hc6, hcl6⟩ := Cond.classLink_spec hown hl1 e.platform hpl
        obtain ⟨a8, b8, h1, h2, h3⟩ := hn1
        cases Option.some.inj (h1.symm.trans hcl)
        cases Option.some.inj (h2.symm.trans hc6)
        exact Or.inr ⟨hz0, _, hcl6, h3⟩)
  obtain ⟨g₀, hfr⟩ := X'.frames_eq
  have hcell9 : ((T.setVm vm').setFrames (.throwing q :: below)).heap[q]? = some ce := by
    show T.heap[q]? = some ce
    rw [hT]; exact hcell
  have hend : Ended ((T.setVm vm').setFrames (.throwing q :: below)) below (.threw q) := State.frames_setFrames _ (State.cur_lt_of_frames hfr)
  refine ⟨(T.setVm vm').setFrames (.throwing q :: below), ?_, .threw q, X'.here.running, hend, Or.inr ⟨q, rfl, E, ce, locs, hx _ hT (X'.ends _).1.alike, hcell9, hv, hcl, (X'.ends _).1, (X'.ends _).2.mono hc hs, hf⟩⟩
  rw [X.pushThrowing_eq]
  exact st
/-- a thing of a world lies in the heap -/
theorem vx_lt {D : va_G} {cl : List vw_C} {ws : va_W} {H1 : Heap} (h : va_P D cl ws H1) {k : Nat} {q : Nat × va_E} (hk : ws[k]? = some q) : q.1 < H1.size := (h k q hk).lt
end VXS
/-! ===== END ===== -/
/-! ===== BEGIN methods with a table of their own: called by a name, returning or throwing ===== -/
section VXH
/-! vx_backW, vx_callVX, vx_callSX, vx_callVW, vx_runVW, vx_runVX, vx_runSX, vx_ofWH follow the same proofs as their sisters above (Free/Laws.lean, Shelf42/LK1.lean); vx_outP calls Shelf42/NT130.lean (outThrough). -/
section
variable {l : Launch} {R : Room} {p : Program} {e : Env} {below : List Frame} {s : State} {sargs : Array Value} {y : MethodName} {len W9 : Nat}
theorem vx_backW {ws : List Cond} {rm : Room} {Pc : Array Value → State → Prop} {Qc : Array Value → State → Outcome → State → Prop} {XC : String → State → State → Prop} {mc ms : Nat} {free : Addr → Prop} {bytes : ByteArray} {maxL : Nat} {ret : Option FieldType} {hh : List (Nat × Nat × Nat × Nat)}
    (hM : vx_Met l y ws rm Pc Qc XC mc ms free) (hblind : FrameBlind Pc) (hrc : rm.cells = mc) (hrs : rm.slots = ms)
    (hframes : rm.frames + 1 ≤ R.frames) (hlocals : W9 + (maxL + 11) + rm.locals ≤ R.locals)
    (hws : ∀ w ∈ ws, ∀ a' U, s.WarmedH U.vm → w.before a' U = true) (hcode : Cond.codeWith y bytes maxL ret hh ∈ ws) (hinit : ∀ a' U, s.WarmedH U.vm → (Cond.initialized y.cls).before a' U = true) :
    vx_Back l R p e below s sargs y len W9 (PreOf R mc ms Pc) (PostOf Qc mc ms free) (vx_Post XC mc ms free) := by
  intro m meth c A g ig mk a X hg hsize hdg hW hn hp
  have h1 : (headSpec ws rm).pre.before a A.U = true := atoms_intro fun w hw => hws w hw _ _ X.warmed
  have h2 : (Cond.codeWith y bytes maxL ret hh).before a A.U = true := hws _ hcode _ _ X.warmed
  have h3 : (Cond.initialized y.cls).before a A.U = true := hinit _ _ X.warmed
  have h4 : A.cells + (headSpec ws rm).room.cells ≤ R.cells := by rw [show (headSpec ws rm).room.cells = mc from hrc]; exact hp.1
  have h5 : A.slots + (headSpec ws rm).room.slots ≤ R.slots := by rw [show (headSpec ws rm).room.slots = ms from hrs]; exact hp.2.1
  have hPc : Pc a (A.U.calling g mk a) := hblind _ _ _ _ hp.2.2
  obtain ⟨U, Ls, c0, s0⟩ := A
  dsimp only [Pt.U, Pt.locs, Pt.cells, Pt.slots] at h1 h2 h3 h4 h5 X hn hPc ⊢
  obtain ⟨m9, methY, cY, hn9, hmY, hcY, -, hlY, -⟩ := Cond.codeWith_spec h2
  cases Option.some.inj (hn9.symm.trans hn)
  obtain ⟨kY, hkY, -⟩ := className_of_methodNamed hn
  have hinitY : kY.init = .initialized := Cond.initialized_spec (findClass_of_methodNamed hn) hkY h3
  have h : At U g.method c below := by rw [hg]; exact X.here
  have hlocals9 : W9 + (maxL + 11) + (headSpec ws rm).room.locals ≤ R.locals := hlocals
  have happ : (headSpec ws rm).appliesLoose y e.platform (U.calling g mk a) = true :=
    Spec.appliesLoose_calling (g := g) h hdg hn hkY hinitY
      (X.room_calling (g := g) (R' := (headSpec ws rm).room) hsize hmY hcY hframes (by rw [hlY]; omega) h4 h5) h1
  obtain ⟨mid, hmid⟩ := h.above
  have hfr : (U.setTop g).frames = (.java g :: mid) ++ below := by rw [State.frames_setTop' g h.top, hmid]; rfl
  obtain ⟨o, s₂, hsteps, -, hend, hq⟩ := Steps.callFree hM p X.admits X.cas X.clock (acts := []) hfr happ hPc trivial
  have hq' : vx_Q Qc XC mc ms free a (U.calling g mk a) o s₂ := hq
  rw [State.frames_setTop' g h.top] at hend
  obtain ⟨g₀, hg0⟩ := Option.isSome_iff_exists.mp h.top
  obtain ⟨r, hr⟩ := State.topJava?_eq_some.mp hg0
  have hr' : (({ U with heap := s₂.heap, slotsUsed := s₂.slotsUsed } : State).setVm s₂.vm).frames = .java g₀ :: r := hr
  rcases hq' with ⟨hqc, L, hfe, hL⟩ | ⟨q, rfl, E, ce, L, hx, hce, hcv, hcl, hW₂, hsm, hL⟩
  · obtain ⟨⟨v, rfl⟩, hW₂, e2, q2, q3, q4, q5, q6⟩ := id hfe
    have e3 : s₂ = ({ (U.calling g mk a).setFrames s₂.frames with heap := s₂.heap, slotsUsed := s₂.slotsUsed } : State).setVm s₂.vm := by
      have : s₂ = ({ s₂ with vm := (U.calling g mk a).vm } : State).setVm s₂.vm := rfl
      rw [e2] at this
      exact this
    obtain ⟨c₂, i₂, len₂, hc₂, hd₂, hf₂⟩ := hend
    have hW' : U.WarmedH s₂.vm := hW₂
    have hcc : c₂ = c := by
      have h1 : s₂.code? g.method = U.code? g.method := by
        rw [State.code?_eq, State.code?_eq, hW'.alike.method?]
      exact Option.some.inj (hc₂.symm.trans (h1.trans h.code))
    subst hcc
    have hlen : len₂ = len := by rw [hdg] at hd₂; cases hd₂; rfl
    subst hlen
    have hs₂ : s₂ = (({ U with heap := s₂.heap, slotsUsed := s₂.slotsUsed } : State).setVm s₂.vm).setTop { g with pc := g.pc + len₂, stack := v.toList ++ g.stack } := by
      refine e3.trans ?_
      rw [hf₂, State.calling_eq h.top, State.setFrames_setFrames, State.setTop_of_frames _ hr', hr]
      rfl
    have hsame : U.sameButNew ({ U with heap := s₂.heap, slotsUsed := s₂.slotsUsed } : State) L mc ms := by
      refine ⟨?_, q2, q3, q4, q5, q6⟩
      obtain ⟨t, ht, -⟩ := State.frames_cons hr
      show ({ U with heap := s₂.heap, slotsUsed := s₂.slotsUsed } : State) = { U.setFrames U.frames with heap := s₂.heap, slotsUsed := s₂.slotsUsed }
      rw [State.setFrames_self ht]
    subst hg
    refine Or.inl ⟨v, ⟨(({ U with heap := s₂.heap, slotsUsed := s₂.slotsUsed } : State).setVm s₂.vm), Ls ++ L, c0 + mc, s0 + ms⟩,
      ⟨X.admits, X.cas, X.clock, X.frames, X.room, X.hears, X.method, X.code, (X.here.setHeapUsed s₂.heap s₂.slotsUsed).setVm hW'.alike, X.tail, State.WarmedH.trans X.warmed hW', X.limits, X.bytes, X.same.trans (hsame.setVm s.vm)⟩,
      ⟨g, mk, s₂, L, rfl, rfl, hqc, rfl, hL, rfl, rfl⟩, ?_⟩
    show Steps p.tables e below _ ((({ U with heap := s₂.heap, slotsUsed := s₂.slotsUsed } : State).setVm s₂.vm).setTop { g with pc := g.pc + len₂, stack := v.toList ++ g.stack })
    rw [← hs₂]
    exact hsteps
  · obtain ⟨e2, q2, q3, q4, q5, q6⟩ := id hsm
    have e3 : s₂ = ({ (U.calling g mk a).setFrames s₂.frames with heap := s₂.heap, slotsUsed := s₂.slotsUsed } : State).setVm s₂.vm := by
      have : s₂ = ({ s₂ with vm := (U.calling g mk a).vm } : State).setVm s₂.vm := rfl
      rw [e2] at this
      exact this
    have hf₂ : s₂.frames = .throwing q :: .java g :: U.frames.tail := hend
    have hW' : U.WarmedH s₂.vm := hW₂
    have hs₂ : s₂ = ((({ U with heap := s₂.heap, slotsUsed := s₂.slotsUsed } : State).setVm s₂.vm).setTop g).pushFrame (.throwing q) := by
      refine e3.trans ?_
      rw [hf₂, State.calling_eq h.top, State.setFrames_setFrames, State.pushFrame, State.frames_setTop _ hr', State.setTop_of_frames _ hr', State.setFrames_setFrames, hr]
      rfl
    have hsame : U.sameButNew ({ U with heap := s₂.heap, slotsUsed := s₂.slotsUsed } : State) L mc ms := by
      refine ⟨?_, q2, q3, q4, q5, q6⟩
      obtain ⟨t, ht, -⟩ := State.frames_cons hr
      show ({ U with heap := s₂.heap, slotsUsed := s₂.slotsUsed } : State) = { U.setFrames U.frames with heap := s₂.heap, slotsUsed := s₂.slotsUsed }
      rw [State.setFrames_self ht]
    subst hg
    refine Or.inr ⟨q, ⟨(({ U with heap := s₂.heap, slotsUsed := s₂.slotsUsed } : State).setVm s₂.vm), Ls ++ L, c0 + mc, s0 + ms⟩,
      ⟨X.admits, X.cas, X.clock, X.frames, X.room, X.hears, X.method, X.code, (X.here.setHeapUsed s₂.heap s₂.slotsUsed).setVm hW'.alike, X.tail, State.WarmedH.trans X.warmed hW', X.limits, X.bytes, X.same.trans (hsame.setVm s.vm)⟩,
      ⟨g, mk, s₂, L, E, ce, rfl, rfl, hx, hce, hcv, hcl, rfl, hL, rfl, rfl⟩, ?_⟩
    show Steps p.tables e below _ (((({ U with heap := s₂.heap, slotsUsed := s₂.slotsUsed } : State).setVm s₂.vm).setTop g).pushFrame (.throwing q))
    rw [← hs₂]
    exact hsteps
end
variable {p : Program} {l : Launch} {e : Env} {R : Room} {s : State} {m : MethodId} {args : Array Value} {below : List Frame} {meth : Method} {c : Code} {T : State} {H : Heap} {locs : List Loc} {cells slots : Nat}
theorem vx_callVX (X : Stand p l e R s m args below meth c T locs cells slots) (hexec : p.tables.exec = Jvm.exec) {own C : String} {index : Nat} {y : MethodName} {bytes : ByteArray} {maxL : Nat} {ret : Option FieldType} {hh : List (Nat × Nat × Nat × Nat)}
    (hown : s.vm.findClass own = some m.cls) (hlink : (Cond.methodLink own index y).before args s = true) (hinst : (Cond.instanceMethod y).before args s = true) (hsel : (Cond.selects C y y).before args s = true)
    (hcode : (Cond.codeWith y bytes maxL ret hh).before args s = true) (hy : y.cls ≠ "java/lang/invoke/MethodHandle" ∧ y.cls ≠ "java/lang/invoke/VarHandle")
    {W9 : Nat} {Pre : Pt → Array Value → Prop} {Post : Pt → Array Value → Option Value → Pt → Prop} {PostX : Pt → Array Value → Addr → Pt → Prop} (hK : vx_Back l R p e below s args y 3 W9 Pre Post PostX)
    {b : Addr} {cellB : Cell} (hcell : T.heap[b]? = some cellB) (hobj : cellB.vm.isStatics = false) (hcls : s.vm.findClass C = some cellB.cls)
    {g : JFrame} (hg : g.method = m) (hsize : g.locals.size = c.maxLocals) {argsL rest : List Value} (hlen : ∀ sig, parseMethodDescriptor y.desc = some sig → argsL.length = sig.parameters.length)
    (hstack : g.stack = argsL.reverse ++ .ref b :: rest) (hW : 2 * g.monitorRoom + (rest.map fun v => v.category).sum ≤ W9) (hdg : decode c.code g.pc = .ok (.invokevirtual index, 3))
    (hpre : ∀ vm₁, s.WarmedH vm₁ → Pre ⟨T.setVm vm₁, locs, cells, slots⟩ (Value.ref b :: argsL).toArray) :
    (∃ (v : Option Value) (vm₁ : Vm) (B : Pt), s.WarmedH vm₁ ∧ Stand p l e R s m args below meth c B.U B.locs B.cells B.slots ∧ Post ⟨T.setVm vm₁, locs, cells, slots⟩ (Value.ref b :: argsL).toArray v B ∧
      ∀ target, Steps p.tables e below (B.U.setTop { g with pc := g.pc + 3, stack := v.toList ++ rest }) target → Steps p.tables e below (T.setTop g) target) ∨
    (∃ (q : Addr) (vm₁ : Vm) (B : Pt), s.WarmedH vm₁ ∧ Stand p l e R s m args below meth c B.U B.locs B.cells B.slots ∧ PostX ⟨T.setVm vm₁, locs, cells, slots⟩ (Value.ref b :: argsL).toArray q B ∧
      Steps p.tables e below (T.setTop g) ((B.U.setTop { g with stack := rest }).pushFrame (.throwing q))) := by
  obtain ⟨mk, methM, hnamed, hmethM, hstM, habM⟩ := Cond.instanceMethod_spec hinst
  obtain ⟨m8, methM', cM, hn8, hmethM', -, -, -, -, -, -, hsigM⟩ := Cond.codeWith_spec hcode
  cases Option.some.inj (hn8.symm.trans hnamed)
  cases hmethM.symm.trans hmethM'
  obtain ⟨c2, r2, m2, q1, q2, q3, q4, kP, hkP, hkPi⟩ := Cond.selects_spec hsel
  cases hcls.symm.trans q1
  cases (State.methodFound?_of_named hnamed hy).symm.trans q2
  cases hnamed.symm.trans q3
  have hselP : selectMethod e.platform s.vm cellB.cls mk = .method mk := by rw [Launch.admits_selectMethod X.admits]; exact q4
  obtain ⟨vm₁, X₁, hstep₁⟩ := X.invokevirtual hexec hown hlink hnamed hmethM hstM hkP hkPi hy (a := b) (cell := cellB) hcell
    (fun z h => by rw [h] at hobj; cases hobj) hselP hmethM habM hkP hkPi (g := g) hg (argsL := argsL) (rest := rest) (hlen _ hsigM) hstack hdg
  rcases hK m meth c ⟨T.setVm vm₁, locs, cells, slots⟩ { g with stack := rest } (.invokevirtual index) mk (Value.ref b :: argsL).toArray X₁ hg hsize hdg hW (X₁.named hnamed) (hpre vm₁ X₁.warmed) with ⟨v, B, X', hpost, hsteps⟩ | ⟨q, B, X', hpost, hsteps⟩
  · exact Or.inl ⟨v, vm₁, B, X₁.warmed, X', hpost, fun target h => hstep₁ _ fun acts => by rw [doInvoke_state]; exact hsteps.trans h⟩
  · exact Or.inr ⟨q, vm₁, B, X₁.warmed, X', hpost, hstep₁ _ fun acts => by rw [doInvoke_state]; exact hsteps⟩
theorem vx_callSX (X : Stand p l e R s m args below meth c T locs cells slots) (hexec : p.tables.exec = Jvm.exec) {own : String} {index : Nat} {y : MethodName} {bytes : ByteArray} {maxL : Nat} {ret : Option FieldType} {hh : List (Nat × Nat × Nat × Nat)}
    (hown : s.vm.findClass own = some m.cls) (hlink : (Cond.methodLink own index y).before args s = true) (hstat : (Cond.static y).before args s = true) (hinit : (Cond.initialized y.cls).before args s = true)
    (hcode : (Cond.codeWith y bytes maxL ret hh).before args s = true) (hy : y.cls ≠ "java/lang/invoke/MethodHandle" ∧ y.cls ≠ "java/lang/invoke/VarHandle")
    {W9 : Nat} {Pre : Pt → Array Value → Prop} {Post : Pt → Array Value → Option Value → Pt → Prop} {PostX : Pt → Array Value → Addr → Pt → Prop} (hK : vx_Back l R p e below s args y 3 W9 Pre Post PostX)
    {g : JFrame} (hg : g.method = m) (hsize : g.locals.size = c.maxLocals) {argsL rest : List Value} (hlen : ∀ sig, parseMethodDescriptor y.desc = some sig → argsL.length = sig.parameters.length)
    (hstack : g.stack = argsL.reverse ++ rest) (hW : 2 * g.monitorRoom + (rest.map fun v => v.category).sum ≤ W9) (hdg : decode c.code g.pc = .ok (.invokestatic index, 3))
    (hpre : ∀ vm₁, s.WarmedH vm₁ → Pre ⟨T.setVm vm₁, locs, cells, slots⟩ argsL.toArray) :
    (∃ (v : Option Value) (vm₁ : Vm) (B : Pt), s.WarmedH vm₁ ∧ Stand p l e R s m args below meth c B.U B.locs B.cells B.slots ∧ Post ⟨T.setVm vm₁, locs, cells, slots⟩ argsL.toArray v B ∧
      ∀ target, Steps p.tables e below (B.U.setTop { g with pc := g.pc + 3, stack := v.toList ++ rest }) target → Steps p.tables e below (T.setTop g) target) ∨
    (∃ (q : Addr) (vm₁ : Vm) (B : Pt), s.WarmedH vm₁ ∧ Stand p l e R s m args below meth c B.U B.locs B.cells B.slots ∧ PostX ⟨T.setVm vm₁, locs, cells, slots⟩ argsL.toArray q B ∧
      Steps p.tables e below (T.setTop g) ((B.U.setTop { g with stack := rest }).pushFrame (.throwing q))) := by
  obtain ⟨mk, methM, cM, hnamed, hmethM, -, -, -, -, -, -, hsigM⟩ := Cond.codeWith_spec hcode
  have hstatic : methM.isStatic = true := Cond.static_spec hnamed hmethM hstat
  obtain ⟨kP, hkP, -⟩ := className_of_methodNamed hnamed
  have hinitP : kP.init = .initialized := Cond.initialized_spec (findClass_of_methodNamed hnamed) hkP hinit
  obtain ⟨vm₁, X₁, hstep₁⟩ := X.invokestatic hexec hown hlink hnamed hmethM hstatic hkP hinitP hy (g := g) hg (argsL := argsL) (rest := rest) (hlen _ hsigM) hstack hdg
  rcases hK m meth c ⟨T.setVm vm₁, locs, cells, slots⟩ { g with stack := rest } (.invokestatic index) mk argsL.toArray X₁ hg hsize hdg hW (X₁.named hnamed) (hpre vm₁ X₁.warmed) with ⟨v, B, X', hpost, hsteps⟩ | ⟨q, B, X', hpost, hsteps⟩
  · exact Or.inl ⟨v, vm₁, B, X₁.warmed, X', hpost, fun target h => hstep₁ _ fun acts => by rw [doInvoke_state]; exact hsteps.trans h⟩
  · exact Or.inr ⟨q, vm₁, B, X₁.warmed, X', hpost, hstep₁ _ fun acts => by rw [doInvoke_state]; exact hsteps⟩
theorem vx_callVW (X : Stand p l e R s m args below meth c T locs cells slots) (hexec : p.tables.exec = Jvm.exec) {own C : String} {index : Nat} {y : MethodName} {bytes : ByteArray} {maxL : Nat} {ret : Option FieldType} {hh : List (Nat × Nat × Nat × Nat)}
    (hown : s.vm.findClass own = some m.cls) (hlink : (Cond.methodLink own index y).before args s = true) (hinst : (Cond.instanceMethod y).before args s = true) (hsel : (Cond.selects C y y).before args s = true)
    (hcode : (Cond.codeWith y bytes maxL ret hh).before args s = true) (hy : y.cls ≠ "java/lang/invoke/MethodHandle" ∧ y.cls ≠ "java/lang/invoke/VarHandle")
    {W9 : Nat} {Pre : Pt → Array Value → Prop} {Post : Pt → Array Value → Option Value → Pt → Prop} (hK : Back l R p e below s args y 3 W9 Pre Post)
    {b : Addr} {cellB : Cell} (hcell : T.heap[b]? = some cellB) (hobj : cellB.vm.isStatics = false) (hcls : s.vm.findClass C = some cellB.cls)
    {g : JFrame} (hg : g.method = m) (hsize : g.locals.size = c.maxLocals) {argsL rest : List Value} (hlen : ∀ sig, parseMethodDescriptor y.desc = some sig → argsL.length = sig.parameters.length)
    (hstack : g.stack = argsL.reverse ++ .ref b :: rest) (hW : 2 * g.monitorRoom + (rest.map fun v => v.category).sum ≤ W9) (hdg : decode c.code g.pc = .ok (.invokevirtual index, 3))
    (hpre : ∀ vm₁, s.WarmedH vm₁ → Pre ⟨T.setVm vm₁, locs, cells, slots⟩ (Value.ref b :: argsL).toArray) :
    ∃ (v : Option Value) (vm₁ : Vm) (B : Pt), s.WarmedH vm₁ ∧ Stand p l e R s m args below meth c B.U B.locs B.cells B.slots ∧ Post ⟨T.setVm vm₁, locs, cells, slots⟩ (Value.ref b :: argsL).toArray v B ∧
      ∀ target, Steps p.tables e below (B.U.setTop { g with pc := g.pc + 3, stack := v.toList ++ rest }) target → Steps p.tables e below (T.setTop g) target := by
  obtain ⟨mk, methM, hnamed, hmethM, hstM, habM⟩ := Cond.instanceMethod_spec hinst
  obtain ⟨m8, methM', cM, hn8, hmethM', -, -, -, -, -, -, hsigM⟩ := Cond.codeWith_spec hcode
  cases Option.some.inj (hn8.symm.trans hnamed)
  cases hmethM.symm.trans hmethM'
  obtain ⟨c2, r2, m2, q1, q2, q3, q4, kP, hkP, hkPi⟩ := Cond.selects_spec hsel
  cases hcls.symm.trans q1
  cases (State.methodFound?_of_named hnamed hy).symm.trans q2
  cases hnamed.symm.trans q3
  have hselP : selectMethod e.platform s.vm cellB.cls mk = .method mk := by rw [Launch.admits_selectMethod X.admits]; exact q4
  obtain ⟨vm₁, X₁, hstep₁⟩ := X.invokevirtual hexec hown hlink hnamed hmethM hstM hkP hkPi hy (a := b) (cell := cellB) hcell
    (fun z h => by rw [h] at hobj; cases hobj) hselP hmethM habM hkP hkPi (g := g) hg (argsL := argsL) (rest := rest) (hlen _ hsigM) hstack hdg
  obtain ⟨v, B, X', hpost, hsteps⟩ := hK m meth c ⟨T.setVm vm₁, locs, cells, slots⟩ { g with stack := rest } (.invokevirtual index) mk (Value.ref b :: argsL).toArray X₁ hg hsize hdg hW (X₁.named hnamed) (hpre vm₁ X₁.warmed)
  exact ⟨v, vm₁, B, X₁.warmed, X', hpost, fun target h => hstep₁ _ fun acts => by rw [doInvoke_state]; exact hsteps.trans h⟩
abbrev vx_CVW (R : Room) (s : State) (args : Array Value) (own C : String) (index : Nat) (y : MethodName) (bytes : ByteArray) (maxL : Nat) (ret : Option FieldType) (hh : List (Nat × Nat × Nat × Nat)) (ws : List Cond) (rm : Room) (mc ms n : Nat) : Prop :=
  (rm.cells = mc ∧ rm.slots = ms ∧ rm.frames + 1 ≤ R.frames ∧ 8 + (maxL + 11) + rm.locals ≤ R.locals ∧ (∀ w ∈ ws, ∀ (a' : Array Value) (U : State), s.WarmedH U.vm → w.before a' U = true) ∧ Cond.codeWith y bytes maxL ret hh ∈ ws) ∧
  (Cond.codeWith y bytes maxL ret hh).before args s = true ∧ (Cond.initialized y.cls).before args s = true ∧ (y.cls ≠ "java/lang/invoke/MethodHandle" ∧ y.cls ≠ "java/lang/invoke/VarHandle") ∧
  (∀ sig, parseMethodDescriptor y.desc = some sig → n = sig.parameters.length) ∧ (Cond.methodLink own index y).before args s = true ∧ (Cond.instanceMethod y).before args s = true ∧ (Cond.selects C y y).before args s = true
theorem vx_cwVW {own C : String} {index maxL mc ms : Nat} {y : MethodName} {bytes : ByteArray} {ret : Option FieldType} {hh : List (Nat × Nat × Nat × Nat)} {Ts ws ws' : List Cond} {rm : Room} (n : Nat) (ht : ∀ w ∈ Ts, w.before args s = true) (hT : GoodIn Ts (wsV own index C y ws)) (hw : ws = Cond.codeWith y bytes maxL ret hh :: ws') (hrc : rm.cells = mc) (hrs : rm.slots = ms)
    (hd : y.cls = C ∧ y.cls ≠ "java/lang/invoke/MethodHandle" ∧ y.cls ≠ "java/lang/invoke/VarHandle" ∧ (parseMethodDescriptor y.desc).map (fun d => d.parameters.length) = some n) (hR : rm.frames + 1 ≤ R.frames ∧ 8 + (maxL + 11) + rm.locals ≤ R.locals) :
    vx_CVW R s args own C index y bytes maxL ret hh ws rm mc ms n := by
  obtain ⟨hC, hd⟩ := hd
  subst hC
  have ok : ∀ w ∈ wsV own index y.cls y ws, w.before args s = true := fun w h => ht w (hT w h).1
  have hG : GoodIn Ts ws := fun w h => hT w (by unfold wsV; exact List.mem_append_right _ h)
  have hc : Cond.codeWith y bytes maxL ret hh ∈ ws := by rw [hw]; exact List.mem_cons_self
  refine ⟨⟨hrc, hrs, hR.1, hR.2, pay_in ht hG, hc⟩, ht _ (hG _ hc).1, ok _ (by simp [wsV]), ⟨hd.1, hd.2.1⟩, fun sig h => ?_, ok _ (by simp [wsV]), ok _ (by simp [wsV]), ok _ (by simp [wsV])⟩
  have h2 := hd.2.2
  rw [h] at h2
  exact (Option.some.inj h2).symm
theorem vx_runVW {y : MethodName} {bytes cc : ByteArray} {maxL nL mc ms n index : Nat} {ret : Option FieldType} {hh : List (Nat × Nat × Nat × Nat)} {ws : List Cond} {rm : Room} {Pc : Array Value → State → Prop} {Qc : Array Value → State → Outcome → State → Prop} {free : Addr → Prop} {Ts : List Cond} {own C : String} {b : Addr} {As rest : List Value} {g : JFrame}
    (S : CallFix p m c cc nL s args Ts own) (hM : Met l y ws rm Pc Qc mc ms free) (cw : vx_CVW R s args own C index y bytes maxL ret hh ws rm mc ms n) (hp : PreV s H C b Pc As)
    (hg : g.method = m) (hn : As.length = n) (hsize : g.locals.size = nL) (hstack : g.stack = As.reverse ++ .ref b :: rest) (hW : 2 * g.monitorRoom + (rest.map fun v => v.category).sum ≤ 8) (hdg : decode cc g.pc = .ok (.invokevirtual index, 3)) (hf : cells + mc ≤ R.cells ∧ slots + ms ≤ R.slots) :
    va_Run p l e R s m args below meth c H locs cells slots mc ms g rest (Qc (Value.ref b :: As).toArray) free := by
  obtain ⟨⟨hrc, hrs, hfr, hlo, hws, hcw⟩, hcode, hini, hy, hlen, hl, hin, hse⟩ := cw
  have hK : Back l R p e below s args y 3 8 (PreOf R mc ms Pc) (PostOf Qc mc ms free) := va_backW (hh := hh) (bytes := bytes) (maxL := maxL) (ret := ret) hM hp.1 hrc hrs hfr hlo hws hcw (fun a' U hW => word_at hW (Or.inl (by first | rfl | simp [Cond.onTables, Cond.keeps, Cond.steady])) hini)
  obtain ⟨hx, hb, hml, ho, -⟩ := S
  obtain ⟨-, ⟨cellB, hcB, hoB, hclB⟩, hPc⟩ := hp
  intro T hT X
  obtain ⟨v, vm₁, ⟨U', l2, c2, s2⟩, hW₁, X', ⟨g', mk, t, L, e1, e2, hq, h1, hL, h2, h3⟩, st⟩ := vx_callVW X hx (C := C) (hh := hh) (bytes := bytes) (maxL := maxL) (ret := ret) ho hl hin hse hcode hy hK (by rw [hT]; exact hcB) hoB hclB hg (hsize.trans hml.symm) (argsL := As) (rest := rest) (fun sig h => hn.trans (hlen sig h)) hstack hW (by rw [hb]; exact hdg)
    (fun vm₁ hW₁ => ⟨hf.1, hf.2, hPc (T.setVm vm₁) hT hW₁⟩)
  dsimp only [Pt.U, Pt.locs, Pt.cells, Pt.slots] at X' e1 e2 h1 h2 h3 st
  subst h1; subst h2; subst h3
  exact ⟨v, (T.setVm vm₁).calling g' mk (Value.ref b :: As).toArray, t, U', L, hT, X', hL, e1, e2, hq, st⟩
section
variable {y : MethodName} {bytes cc : ByteArray} {maxL nL mc ms n index : Nat} {ret : Option FieldType} {ws : List Cond} {rm : Room} {Pc : Array Value → State → Prop} {Qc : Array Value → State → Outcome → State → Prop} {XC : String → State → State → Prop} {free : Addr → Prop} {Ts : List Cond} {own C : String} {b : Addr} {As rest : List Value} {g : JFrame}
theorem vx_runVX {hh : List (Nat × Nat × Nat × Nat)} (S : CallFix p m c cc nL s args Ts own) (hM : vx_Met l y ws rm Pc Qc XC mc ms free) (cw : vx_CVW R s args own C index y bytes maxL ret hh ws rm mc ms n) (hp : PreV s H C b Pc As)
    (hg : g.method = m) (hn : As.length = n) (hsize : g.locals.size = nL) (hstack : g.stack = As.reverse ++ .ref b :: rest) (hW : 2 * g.monitorRoom + (rest.map fun v => v.category).sum ≤ 8) (hdg : decode cc g.pc = .ok (.invokevirtual index, 3)) (hf : cells + mc ≤ R.cells ∧ slots + ms ≤ R.slots) :
    vx_Run p l e R s m args below meth c H locs cells slots mc ms g rest (Qc (Value.ref b :: As).toArray) XC free := by
  obtain ⟨⟨hrc, hrs, hfr, hlo, hws, hcw⟩, hcode, hini, hy, hlen, hl, hin, hse⟩ := cw
  have hK : vx_Back l R p e below s args y 3 8 (PreOf R mc ms Pc) (PostOf Qc mc ms free) (vx_Post XC mc ms free) := vx_backW (hh := hh) (bytes := bytes) (maxL := maxL) (ret := ret) hM hp.1 hrc hrs hfr hlo hws hcw (fun a' U hW => word_at hW (Or.inl (by first | rfl | simp [Cond.onTables, Cond.keeps, Cond.steady])) hini)
  obtain ⟨hx, hb, hml, ho, -⟩ := S
  obtain ⟨-, ⟨cellB, hcB, hoB, hclB⟩, hPc⟩ := hp
  intro T hT X
  rcases vx_callVX X hx (C := C) (hh := hh) (bytes := bytes) (maxL := maxL) (ret := ret) ho hl hin hse hcode hy hK (by rw [hT]; exact hcB) hoB hclB hg (hsize.trans hml.symm) (argsL := As) (rest := rest) (fun sig h => hn.trans (hlen sig h)) hstack hW (by rw [hb]; exact hdg)
    (fun vm₁ hW₁ => ⟨hf.1, hf.2, hPc (T.setVm vm₁) hT hW₁⟩) with ⟨v, vm₁, ⟨U', l2, c2, s2⟩, hW₁, X', ⟨g', mk, t, L, e1, e2, hq, h1, hL, h2, h3⟩, st⟩ | ⟨q, vm₁, ⟨U', l2, c2, s2⟩, hW₁, X', ⟨g', mk, t, L, E, ce, e1, e2, hq, hce, hcv, hcl, h1, hL, h2, h3⟩, st⟩
  · dsimp only [Pt.U, Pt.locs, Pt.cells, Pt.slots] at X' e1 e2 h1 h2 h3 st
    subst h1; subst h2; subst h3
    exact Or.inl ⟨v, (T.setVm vm₁).calling g' mk (Value.ref b :: As).toArray, t, U', L, hT, X', hL, e1, e2, hq, st⟩
  · dsimp only [Pt.U, Pt.locs, Pt.cells, Pt.slots] at X' e1 e2 h1 h2 h3 st hcl
    subst h1; subst h2; subst h3
    exact Or.inr ⟨q, (T.setVm vm₁).calling g' mk (Value.ref b :: As).toArray, t, U', L, E, ce, hT, X', hL, e1, e2, hq, hce, hcv, vx_cls hW₁ hcl, st⟩
theorem vx_runSX {hh : List (Nat × Nat × Nat × Nat)} (S : CallFix p m c cc nL s args Ts own) (hM : vx_Met l y ws rm Pc Qc XC mc ms free) (cw : vx_CSW R s args own index y bytes maxL ret hh ws rm mc ms n) (hp : PreS s H Pc As)
    (hg : g.method = m) (hn : As.length = n) (hsize : g.locals.size = nL) (hstack : g.stack = As.reverse ++ rest) (hW : 2 * g.monitorRoom + (rest.map fun v => v.category).sum ≤ 8) (hdg : decode cc g.pc = .ok (.invokestatic index, 3)) (hf : cells + mc ≤ R.cells ∧ slots + ms ≤ R.slots) :
    vx_Run p l e R s m args below meth c H locs cells slots mc ms g rest (Qc As.toArray) XC free := by
  obtain ⟨⟨hrc, hrs, hfr, hlo, hws, hcw⟩, hcode, hini, hy, hlen, hl, hstt⟩ := cw
  have hK : vx_Back l R p e below s args y 3 8 (PreOf R mc ms Pc) (PostOf Qc mc ms free) (vx_Post XC mc ms free) := vx_backW (hh := hh) (bytes := bytes) (maxL := maxL) (ret := ret) hM hp.1 hrc hrs hfr hlo hws hcw (fun a' U hW => word_at hW (Or.inl (by first | rfl | simp [Cond.onTables, Cond.keeps, Cond.steady])) hini)
  obtain ⟨hx, hb, hml, ho, -⟩ := S
  intro T hT X
  rcases vx_callSX X hx (hh := hh) (bytes := bytes) (maxL := maxL) (ret := ret) ho hl hstt hini hcode hy hK hg (hsize.trans hml.symm) (argsL := As) (rest := rest) (fun sig h => hn.trans (hlen sig h)) hstack hW (by rw [hb]; exact hdg)
    (fun vm₁ hW₁ => ⟨hf.1, hf.2, hp.2 (T.setVm vm₁) hT hW₁⟩) with ⟨v, vm₁, ⟨U', l2, c2, s2⟩, hW₁, X', ⟨g', mk, t, L, e1, e2, hq, h1, hL, h2, h3⟩, st⟩ | ⟨q, vm₁, ⟨U', l2, c2, s2⟩, hW₁, X', ⟨g', mk, t, L, E, ce, e1, e2, hq, hce, hcv, hcl, h1, hL, h2, h3⟩, st⟩
  · dsimp only [Pt.U, Pt.locs, Pt.cells, Pt.slots] at X' e1 e2 h1 h2 h3 st
    subst h1; subst h2; subst h3
    exact Or.inl ⟨v, (T.setVm vm₁).calling g' mk As.toArray, t, U', L, hT, X', hL, e1, e2, hq, st⟩
  · dsimp only [Pt.U, Pt.locs, Pt.cells, Pt.slots] at X' e1 e2 h1 h2 h3 st hcl
    subst h1; subst h2; subst h3
    exact Or.inr ⟨q, (T.setVm vm₁).calling g' mk As.toArray, t, U', L, E, ce, hT, X', hL, e1, e2, hq, hce, hcv, vx_cls hW₁ hcl, st⟩
end
end VXH
theorem vx_ofWH {l : Launch} {y : MethodName} {ws ws' : List Cond} {rm : Room} {Pc : Array Value → State → Prop} {Qc : Array Value → State → Outcome → State → Prop} {XC : String → State → State → Prop} {mc ms : Nat} {free : Addr → Prop} {cc : ByteArray} {maxL : Nat} {ret : Option FieldType} {hh : List (Nat × Nat × Nat × Nat)}
    (hy : plainName y.cls = true) (hw : ws = Cond.codeWith y cc maxL ret hh :: ws')
    (body : ∀ p e s m args below meth c s₁, BodyLoose p l y (headSpec ws rm) cc maxL ret e s m args below meth c s₁ → c.maxLocals = maxL → Pc args s →
      W p l e (headSpec ws rm).room s m args below meth c s.heap [] 0 0 (vx_MQ below Qc XC args s mc ms free) (entryFrame m args maxL)) : vx_Met l y ws rm Pc Qc XC mc ms free := by
  refine MetFree.of_bodyS (code := cc) (maxLocals := maxL) (ret := ret) hy ?_ ?_
  · intro args s m h hn
    obtain ⟨m9, meth, c, hn9, h1, h2, h3, h4, -, h5, h6, -⟩ := Cond.codeWith_spec (atoms_spec (ws := ws) h _ (by rw [hw]; exact List.mem_cons_self))
    cases hn.symm.trans hn9
    exact ⟨meth, c, h1, h2, h3, h4, h5, h6⟩
  · intro p e s m args below meth c s₁ B hml hP _
    have hh0 : s₁.heap = s.heap := by rw [B.state]; rfl
    obtain ⟨t, a1, o, b1, b2, b3⟩ := body p e s m args below meth c s₁ B hml hP s₁ hh0 (Stand.of_body B)
    exact ⟨t, o, a1, b1, b2, b3⟩
/-! ===== END ===== -/
end
section
section XN
variable {p : Program} {l : Launch} {e : Env} {R : Room} {s : State} {m₀ : MethodId} {args : Array Value} {below : List Frame} {meth : Method} {c : Code} {W : State} {locs : List Loc} {cells slots : Nat}
set_option maxHeartbeats 1000000 in
/-- a constructor E(String) whose call of its superclass's stands at another entry, then athrow, in launches without stack traces: it follows the library's own law of such throws, with the first link's entry and bytes free -/
theorem xn_ctor (X : Stand p l e R s m₀ args below meth c W locs cells slots) (hexec : p.tables.exec = Jvm.exec) (htr : e.platform.stackTraces = false) {own cls : String} {names : List String} {ic ix : Nat} {rx : ByteArray}
    (x0 : decode rx 0 = .ok (.aload_n 0, 1)) (x1 : decode rx 1 = .ok (.aload_n 1, 1)) (x2 : decode rx 2 = .ok (.invokespecial ix, 3)) (x5 : decode rx 5 = .ok (.return_, 1))
    (hown : s.vm.findClass own = some m₀.cls) (hcls : Bundle.fit cls = true) (hnames : ∀ n ∈ names, Bundle.fit n = true)
    (h : ∀ a ∈ Bundle.ownAtomsX own ic cls ix rx names, a.before args s = true)
    (hlocs : ∀ x ∈ locs, ∀ cell, s.heap[x.base]? = some cell → cell.vm.isStatics = false)
    {a : Addr} {cX : ClassId} {kX : Class} (hfoundX : s.vm.findClass cls = some cX) (hkX : s.vm.classes[cX]? = some kX) (hcell : W.heap[a]? = some (freshCell cX kX)) (hnew : s.heap.size ≤ a)
    {msg : Value} (hmsg : msg.isRef = true)
    {g : JFrame} (hg : g.method = m₀) (hsize : g.locals.size = c.maxLocals) (hlocked : g.locked = none) (hentered : g.entered = []) {rest : List Value} (hstack : g.stack = msg :: .ref a :: .ref a :: rest)
    (hd6 : decode c.code g.pc = .ok (.invokespecial ic, 3)) (hd9 : decode c.code (g.pc + 3) = .ok (.athrow, 1)) (hout : ∀ x ∈ c.exceptionTable.toList, covers x (g.pc + 3) = false)
    (hRframes : names.length + 3 < R.frames) (hRlocals : 2 * g.monitorRoom + ((Value.ref a :: rest).map fun v => v.category).sum + (13 * (names.length + 1) + 42) ≤ R.locals) (hlocks : meth.locks = false) :
    ∃ U : State, Steps p.tables e below (W.setTop g) U ∧ U.status = .running ∧ Ended U below (.threw a) ∧ s.WarmedH U.vm ∧ s.sameButNew ({ U with vm := s.vm } : State) locs cells slots ∧
      ∃ ce, U.heap[a]? = some ce ∧ ce.vm = .none ∧ s.vm.findClass cls = some ce.cls := by
  have howns : e.platform.frameOwnsMonitors = true := by rw [X.admits.platform]
  have hfin : e.platform.finalization = false := by rw [X.admits.platform]
  have hpl : e.platform.magicAccessors = ({} : Platform).magicAccessors := by rw [X.admits.platform]
  have a' : ∀ x, x ∈ Bundle.ownAtomsX own ic cls ix rx names → x.holds args s none s [] = true := fun x hx => h x hx
  obtain ⟨T, Z0, L, -, Y⟩ := ThrowableC.of_atoms (args := args) howns hfin hpl (fun x hx => h x (by simp [Bundle.ownAtomsX, hx]))
  obtain ⟨Z, M, LZ, LM, hnZ⟩ := Init0T.ofS_atoms (args := args) hpl L Y (fun x hx => h x (by simp [Bundle.ownAtomsX, hx]))
  obtain ⟨P1, Ps, hlen, L1, hL, hP1m, hlink1, hlink⟩ := Bundle.chainSX (args := args) hpl hnZ x0 x1 x2 x5 names cls hcls hnames (fun x hx => h x (by simp [Bundle.ownAtomsX, hx]))
  have hin : (Cond.instanceMethod (Bundle.initS cls)).before args s = true := h _ (by cases names <;> simp [Bundle.ownAtomsX, Bundle.chainSAtomsX, Bundle.passSAtoms])
  have hco : (Cond.code (Bundle.initS cls) rx 2 none).before args s = true := h _ (by cases names <;> simp [Bundle.ownAtomsX, Bundle.chainSAtomsX, Bundle.passSAtoms])
  have hfound : s.vm.findClass cls = some P1.m.cls := findClass_of_methodNamed hP1m
  cases Option.some.inj (hfoundX.symm.trans hfound)
  obtain ⟨c1, kX', hc1, hk, hord, -, -, hn6⟩ := Cond.instantiable_spec (a' (.instantiable cls 6) (by simp [Bundle.ownAtomsX]))
  cases Option.some.inj (hc1.symm.trans hfound)
  cases Option.some.inj (hkX.symm.trans hk)
  have hsel0 : selectMethod e.platform s.vm P1.m.cls T.fill0 = .method T.fill0 := by
    obtain ⟨c2, r2, m2, q1, q2, q3, q4, -⟩ := Cond.selects_spec (a' (.selects cls Bundle.tFill0 Bundle.tFill0) (by simp [Bundle.ownAtomsX]))
    cases Option.some.inj (q1.symm.trans hfound)
    cases Option.some.inj (q2.symm.trans (State.methodFound?_of_named Y.fill0 (by decide)))
    cases Option.some.inj (q3.symm.trans Y.fill0)
    rw [Launch.admits_selectMethod X.admits]; exact q4
  have hselF : selectMethod e.platform s.vm P1.m.cls T.fill = .method T.fill := by
    obtain ⟨c2, r2, m2, q1, q2, q3, q4, -⟩ := Cond.selects_spec (a' (.selects cls Bundle.tFill Bundle.tFill) (by simp [Bundle.ownAtomsX]))
    cases Option.some.inj (q1.symm.trans hfound)
    cases Option.some.inj (q2.symm.trans (State.methodFound?_of_named Y.fill (by decide)))
    cases Option.some.inj (q3.symm.trans Y.fill)
    rw [Launch.admits_selectMethod X.admits]; exact q4
  obtain ⟨cellS0, hcS0, hiss⟩ := Y.statics
  obtain ⟨u0, hu0⟩ := Cond.staticRefV Y.unassigned L.unassignedStatic L.statics hcS0 hiss (a' (.isRef (.static Bundle.tN "UNASSIGNED_STACK" Bundle.steD)) (by simp [Bundle.ownAtomsX]))
  obtain ⟨sen, hsen⟩ := Cond.staticRefV Y.sentinel L.sentinelStatic L.statics hcS0 hiss (a' (.isRef (.static Bundle.tN "SUPPRESSED_SENTINEL" Bundle.listD)) (by simp [Bundle.ownAtomsX]))
  obtain ⟨ci198, i198, fB, hk198, hg198, ha198, hsB, -, hnB, htB, hffB⟩ := Cond.ownField (t := .object "java/lang/Object") Y.found L.cls (by decide +kernel) (a' (.fieldLink Bundle.tN 198 Bundle.tN "backtrace" "Ljava/lang/Object;") (by simp [Bundle.ownAtomsX])) (a' (.lays Bundle.tN Bundle.tN "backtrace" "Ljava/lang/Object;") (by simp [Bundle.ownAtomsX])) e.platform hpl
  obtain ⟨cellS, hcS', heS, -, hkeep⟩ := X.same.2.2.2.2.2 T.aS cellS0 hcS0
  have hcellS : W.heap[T.aS]? = some cellS := hcS'
  have hout' : ∀ i, (⟨T.aS, i⟩ : Loc) ∉ locs := fun i hmem => by
    have := hlocs _ hmem cellS0 hcS0
    rw [hiss] at this; cases this
  have hknownS : cellS.vm ≠ .unknown := by
    rw [heS]; intro hu
    rw [show cellS0.vm = .unknown from hu] at hiss
    cases hiss
  have hneS : T.aS ≠ a := Nat.ne_of_lt (Nat.lt_of_lt_of_le (Array.getElem?_eq_some_iff.mp hcS0).1 hnew)
  obtain ⟨iM, hffM⟩ := Y.msg
  obtain ⟨tyC, dC, hdC, hdnC⟩ := Cond.laysAt hfound hk Y.cause (a' (.lays cls Bundle.tN "cause" "Ljava/lang/Throwable;") (by simp [Bundle.ownAtomsX]))
  obtain ⟨tyS, dS, hdS, hdnS⟩ := Cond.laysAt hfound hk Y.stack (a' (.lays cls Bundle.tN "stackTrace" Bundle.steD) (by simp [Bundle.ownAtomsX]))
  obtain ⟨tyP, dP, hdP, hdnP⟩ := Cond.laysAt hfound hk Y.supp (a' (.lays cls Bundle.tN "suppressedExceptions" Bundle.listD) (by simp [Bundle.ownAtomsX]))
  obtain ⟨tyM, dM, hdM, hdnM⟩ := Cond.laysAt hfound hk hffM (a' (.lays cls Bundle.tN "detailMessage" "Ljava/lang/String;") (by simp [Bundle.ownAtomsX]))
  obtain ⟨tyB, dB, hdB, hdnB⟩ := Cond.laysAt hfound hk hffB (a' (.lays cls Bundle.tN "backtrace" "Ljava/lang/Object;") (by simp [Bundle.ownAtomsX]))
  have bC := Cond.laysApart hdB hdC hdnB hdnC (by rw [hnB, Y.causeName]; decide)
  have bS := Cond.laysApart hdB hdS hdnB hdnS (by rw [hnB, Y.stackName]; decide)
  have bP := Cond.laysApart hdB hdP hdnB hdnP (by rw [hnB, Y.suppName]; decide)
  have hskip : SkipFacts T e.platform s (fun u => u) u0 ((preparedCellV T.toThrowableT (freshCell P1.m.cls kX) a u0 sen).withEntry W.cur) :=
    ⟨{ ci198 := ci198, i198 := i198, fBack := fB }, ⟨hk198, hg198, ha198, hsB⟩, by
      have := fresh_default (c := P1.m.cls) tyB
      rw [htB] at this
      simpa [preparedCellV, Cell.setSlot, Cell.withEntry, Array.getElem?_setIfInBounds, bC, bS, bP, bC.symm, bS.symm, bP.symm, defaultValue] using this, fun _ _ => rfl⟩
  obtain ⟨tm, methC, cdC, kC, vm₁, hnC, -, -, -, -, -, -, -, hW₁, st1⟩ := Steps.initColdS (tb := p.tables) (e := e) (below := below) (s := s) (U := W) X.here hexec X.warmed hpl hown (t := Bundle.initS cls) rfl rfl (Bundle.fit_spec hcls).2
    (a' (.methodLink own ic (Bundle.initS cls)) (by simp [Bundle.ownAtomsX])) hin (bytes := rx) (maxL := 2) hco (f := g) hg (a := a) (msg := msg) (rest := .ref a :: rest) hstack hd6
  cases Option.some.inj (hnC.symm.trans hP1m)
  have X₁ := X.noted hW₁
  obtain ⟨vm₂, X₂, st2⟩ := X₁.ctorMessageOffV hexec (g := { g with stack := .ref a :: rest }) hg hsize T L Z LZ M LM (P1 :: Ps)
    (fun P hP => by rcases List.mem_cons.mp hP with rfl | hP; exact L1; exact hL P hP) ⟨hlink1, hlink⟩ (u0 := u0) (sen := sen) (self := a) hmsg (cell := freshCell P1.m.cls kX) (cellS := cellS)
    hcell (fun _ => by simp) (by simp) rfl rfl hsel0 hselF hcellS hneS hknownS (by rw [hkeep _ (hout' _)]; exact hu0) (by rw [hkeep _ (hout' _)]; exact hsen)
    (Takes.of_laid hk hord tyC (by rw [Y.causeType]; rfl)) (Takes.of_laid hk hord tyS (by rw [Y.stackType]; exact fits_refV_array _ u0)) (Takes.of_laid hk hord tyP (by rw [Y.suppType]; exact fits_refV_object _ sen))
    (Takes.of_laid hk hord tyM (by rw [Y.msgType]; exact fits_refV_object _ ⟨msg, hmsg⟩)) Y.objLocals hskip htr [] hd6
    (by simp only [List.length_cons, hlen]; omega) (by simp only [List.length_cons, hlen]; exact hRlocals)
  obtain ⟨hwalk, hrun, hended, hWU, hsame⟩ := X₂.athrowLeaves hexec (g := { g with stack := .ref a :: rest, pc := g.pc + 3 }) hg hlocked hentered hout (a := a) (rest := rest) rfl hd9
  have hlt : a < ((W.setVm vm₁).setVm vm₂).heap.size := (Array.getElem?_eq_some_iff.mp hcell).1
  have hU := heapAt_setCell_self (s := (W.setVm vm₁).setVm vm₂) (plainBareV T.toThrowableT (freshCell P1.m.cls kX) a u0 sen msg) hlt
  refine ⟨_, st1 _ (fun acts => ?_), hrun, hended, hWU, hsame.weaken (fun y hy hlt' => ?_) (Nat.le_refl _) (Nat.le_refl _), _, hU, rfl, hfound⟩
  · rw [doInvoke_state]
    exact st2 _ hwalk
  · rcases List.mem_append.mp hy with h1 | h1
    · exact h1
    · exfalso
      have hb : y.base = a := by
        simp only [List.mem_cons, List.not_mem_nil, or_false] at h1
        rcases h1 with rfl | rfl | rfl | rfl | rfl <;> rfl
      rw [hb] at hlt'
      exact Nat.not_lt.mpr hnew hlt'
end XN
def xn_at (own : String) (ic : Nat) (X : String) (ix : Nat) (rx : ByteArray) (names : List String) : List Cond := (Bundle.ownAtomsX own ic X ix rx names).filter vx_no
section XNT
variable {p : Program} {l : Launch} {e : Env} {R : Room} {s : State} {m : MethodId} {args : Array Value} {below : List Frame} {meth : Method} {c : Code} {H : Heap} {locs : List Loc} {cells slots : Nat} {Q : State → Prop}
variable {mc ms : Nat} {free : Addr → Prop} {A0 A1 : Nat → Prop} {H0 : Heap} {a : Array Value} {ls : Array Slot} {st0 rest : List Value}
variable {Qc : Array Value → State → Outcome → State → Prop} {XC : String → State → State → Prop}
theorem xn_throwS {cc : ByteArray} {pc : Nat} (hexec : p.tables.exec = Jvm.exec) (hb : c.code = cc) (hl : l.stackTraces = false) {own cls text : String} {names : List String} {ik is ic ix mc ms sa : Nat} {rx : ByteArray} {A : Nat → Prop}
    (x0 : decode rx 0 = .ok (.aload_n 0, 1)) (x1 : decode rx 1 = .ok (.aload_n 1, 1)) (x2 : decode rx 2 = .ok (.invokespecial ix, 3)) (x5 : decode rx 5 = .ok (.return_, 1)) (hown : s.vm.findClass own = some m.cls) (hcls : Bundle.fit cls = true) (hnames : ∀ n ∈ names, Bundle.fit n = true)
    (hk : (Cond.classLink own ik cls).before args s = true) (hini : (Cond.initialized cls).before args s = true) (hstr : vk_R own is text sa s) (hat : ∀ w ∈ xn_at own ic cls ix rx names, w.before args s = true)
    (hgood : ∀ w ∈ Cond.classLink own ik cls :: Cond.initialized cls :: xn_at own ic cls ix rx names, vx_ot w = true)
    (hU : vx_Zq Bundle.tN "UNASSIGNED_STACK" Bundle.steD A s s.heap) (hN : vx_Zq Bundle.tN "SUPPRESSED_SENTINEL" Bundle.listD A s s.heap) (hS : va_S A s.heap H locs) (hsize : ls.size = c.maxLocals)
    (d0 : decode cc pc = .ok (.new ik, 3)) (d3 : decode cc (pc + 3) = .ok (.dup, 1)) (d4 : decode cc (pc + 4) = .ok (.ldc is, 2)) (d6 : decode cc (pc + 6) = .ok (.invokespecial ic, 3)) (d9 : decode cc (pc + 9) = .ok (.athrow, 1))
    (hout : ∀ x ∈ c.exceptionTable.toList, covers x (pc + 9) = false)
    (hRframes : names.length + 3 < R.frames) (hRlocals : (rest.map fun v => v.category).sum + (13 * (names.length + 1) + 43) ≤ R.locals) (hRcells : cells + 1 ≤ R.cells) (hRslots : slots + 6 ≤ R.slots) (hlocks : meth.locks = false)
    (hx : ∀ t : State, s.vm.Alike t.vm → H.size ≤ t.heap.size → (∀ q : Nat, q < H.size → t.heap[q]? = H[q]?) → XC cls s t)
    (hf : ∀ z ∈ locs, free z.base) (hc : cells + 1 ≤ mc) (hs : slots + 6 ≤ ms) :
    W p l e R s m args below meth c H locs cells slots (vx_MQ below Qc XC args s mc ms free) (F0 m pc ls rest) := by
  intro T hT X
  have htr : e.platform.stackTraces = false := (show e.platform.stackTraces = l.stackTraces by rw [X.admits.platform]).trans hl
  have Y := vx_rebase X (R' := { frames := R.frames, locals := R.locals, cells := 1, slots := 6 }) (Nat.le_refl _) (Nat.le_refl _) hRcells hRslots
  obtain ⟨s', hA⟩ : ∃ z, z = (T.setVm s.vm).setFrames (.invoking m args :: below) := ⟨_, rfl⟩
  rw [← hA] at Y
  have hvm : s'.vm = s.vm := by rw [hA]; rfl
  have hhp : s'.heap = H := by rw [hA]; exact hT
  have hW0 : s.WarmedH s'.vm := by rw [hvm]; exact State.WarmedH.refl s
  have hat' : ∀ w ∈ xn_at own ic cls ix rx names, w.before args s' = true := fun w hw => vx_ot_at hW0 hvm.symm (hgood w (List.mem_cons_of_mem _ (List.mem_cons_of_mem _ hw))) (hat w hw)
  have hk' : (Cond.classLink own ik cls).before args s' = true := vx_ot_at hW0 hvm.symm (hgood _ List.mem_cons_self) hk
  have hini' : (Cond.initialized cls).before args s' = true := vx_ot_at hW0 hvm.symm (hgood _ (List.mem_cons_of_mem _ List.mem_cons_self)) hini
  have hU' : vx_Zq Bundle.tN "UNASSIGNED_STACK" Bundle.steD A s' s'.heap := by rw [hhp]; exact vx_Zq.moved hW0.alike (hU.kept hS.2.1)
  have hN' : vx_Zq Bundle.tN "SUPPRESSED_SENTINEL" Bundle.listD A s' s'.heap := by rw [hhp]; exact vx_Zq.moved hW0.alike (hN.kept hS.2.1)
  have h : ∀ w ∈ Bundle.ownAtomsX own ic cls ix rx names, w.before args s' = true := vx_own hat' (vx_isRefq hU'.1) (vx_isRefq hN'.1) hU'.2.word hN'.2.word
  have hown' : s'.vm.findClass own = some m.cls := by rw [hvm]; exact hown
  have hins : (Cond.instantiable cls 6).before args s' = true := h _ (by simp [Bundle.ownAtomsX])
  obtain ⟨vm₁, cX, kX, hfX, hkX, -, -, X₁, st1⟩ := Y.newCold hexec (own := own) (C := cls) (index := ik) (n := 6) hown' hk' hins hini'
    (g := F0 m pc ls rest) rfl (by rw [hb]; exact d0) (Nat.le_refl _) (Nat.le_refl _)
  generalize hT1 : (T.setVm vm₁).pushCell { cls := cX, slots := kX.instanceTypes.map defaultValue, vm := .none } = T1 at X₁ st1
  have hcat : (Value.ref T.heap.size).category = 1 := rfl
  have hcellA : T1.heap[T.heap.size]? = some (freshCell cX kX) := by rw [← hT1]; exact State.heap_pushCell_size _ _
  have d3' : decode c.code (pc + 3) = .ok (.dup, 1) := by rw [hb]; exact d3
  have d4' : decode c.code (pc + 4) = .ok (.ldc is, 2) := by rw [hb]; exact d4
  have hstr' : vk_R own is text sa s' := vk_R.warm hW0 hstr
  obtain ⟨U, hsteps, hrun, hend, hW, hsame, ce, hce, hOv, hOc⟩ := xn_ctor X₁ hexec htr x0 x1 x2 x5 (own := own) (cls := cls) (names := names) (ic := ic) hown' hcls hnames h (fun x hx => nomatch hx) hfX hkX hcellA (by rw [hhp, hT]; exact Nat.le_refl _) (msg := .ref sa) rfl
    (g := { method := m, pc := pc + 6, locals := ls, stack := .ref sa :: .ref T.heap.size :: .ref T.heap.size :: rest, locked := none }) rfl hsize rfl rfl (rest := rest) rfl
    (by rw [hb]; exact d6) (by rw [hb]; exact d9) hout hRframes (by simp only [List.map_cons, List.sum_cons, hcat]; omega) hlocks
  obtain ⟨f1, f2⟩ := vx_frame hsame
  rw [hhp] at f1 f2
  have hWs : s.WarmedH U.vm := State.WarmedH.trans hW0 hW
  have hcl : s.vm.findClass cls = some ce.cls := by
    have h9 := hOc
    rw [hvm] at h9
    exact h9
  have hall : s.sameButNew ({ U with vm := s.vm } : State) locs mc ms := by
    subst hA
    obtain ⟨e1, e2⟩ := hsame
    rw [State.setFrames_setFrames] at e1
    have h2 : (T.setVm s.vm).sameButNew ({ U with vm := s.vm } : State) [] (0 + 1) (0 + 6) := ⟨e1, e2⟩
    have h3 := X.same.trans h2
    rw [List.append_nil] at h3
    exact h3.mono hc hs
  refine ⟨U, ?_, .threw T.heap.size, hrun, hend, Or.inr ⟨T.heap.size, rfl, cls, ce, locs, hx U hWs.alike f1 (fun q hq => f2 q hq (fun z hz => nomatch hz)), hce, hOv, hcl, hWs, hall, hf⟩⟩
  refine st1 _ ?_
  show Steps p.tables e below (T1.setTop { method := m, pc := pc + 3, locals := ls, stack := .ref T.heap.size :: rest, locked := none }) _
  jvm_step X₁.here [X₁.here.top, hexec, d3', Value.category]
  exact X₁.ldcString hexec (own := own) (text := text) (index := is) (a := sa) hown' hstr'.1 hstr'.2
    (g := { method := m, pc := pc + 4, locals := ls, stack := .ref T.heap.size :: .ref T.heap.size :: rest, locked := none }) rfl d4' _ hsteps
theorem xn_throwSW {cc : ByteArray} {pc : Nat} (hexec : p.tables.exec = Jvm.exec) (hb : c.code = cc) (hl : l.stackTraces = false) {own cls text : String} {names : List String} {ik is ic ix mc ms sa : Nat} {rx : ByteArray} {A : Nat → Prop}
    (x0 : decode rx 0 = .ok (.aload_n 0, 1)) (x1 : decode rx 1 = .ok (.aload_n 1, 1)) (x2 : decode rx 2 = .ok (.invokespecial ix, 3)) (x5 : decode rx 5 = .ok (.return_, 1)) (hown : s.vm.findClass own = some m.cls) (hcls : Bundle.fit cls = true) (hnames : ∀ n ∈ names, Bundle.fit n = true)
    (hk : (Cond.classLink own ik cls).before args s = true) (hini : (Cond.initialized cls).before args s = true) (hstr : vk_R own is text sa s) (hat : ∀ w ∈ xn_at own ic cls ix rx names, w.before args s = true)
    (hgood : ∀ w ∈ Cond.classLink own ik cls :: Cond.initialized cls :: xn_at own ic cls ix rx names, vx_ot w = true)
    (hU : vx_Zq Bundle.tN "UNASSIGNED_STACK" Bundle.steD A s s.heap) (hN : vx_Zq Bundle.tN "SUPPRESSED_SENTINEL" Bundle.listD A s s.heap) (hS : va_S A s.heap H locs) (hsize : ls.size = c.maxLocals)
    (d0 : decode cc pc = .ok (.new ik, 3)) (d3 : decode cc (pc + 3) = .ok (.dup, 1)) (d4 : decode cc (pc + 4) = .ok (.ldc_w is, 3)) (d7 : decode cc (pc + 7) = .ok (.invokespecial ic, 3)) (d10 : decode cc (pc + 10) = .ok (.athrow, 1))
    (hout : ∀ x ∈ c.exceptionTable.toList, covers x (pc + 10) = false)
    (hRframes : names.length + 3 < R.frames) (hRlocals : (rest.map fun v => v.category).sum + (13 * (names.length + 1) + 43) ≤ R.locals) (hRcells : cells + 1 ≤ R.cells) (hRslots : slots + 6 ≤ R.slots) (hlocks : meth.locks = false)
    (hx : ∀ t : State, s.vm.Alike t.vm → H.size ≤ t.heap.size → (∀ q : Nat, q < H.size → t.heap[q]? = H[q]?) → XC cls s t)
    (hf : ∀ z ∈ locs, free z.base) (hc : cells + 1 ≤ mc) (hs : slots + 6 ≤ ms) :
    W p l e R s m args below meth c H locs cells slots (vx_MQ below Qc XC args s mc ms free) (F0 m pc ls rest) := by
  intro T hT X
  have htr : e.platform.stackTraces = false := (show e.platform.stackTraces = l.stackTraces by rw [X.admits.platform]).trans hl
  have Y := vx_rebase X (R' := { frames := R.frames, locals := R.locals, cells := 1, slots := 6 }) (Nat.le_refl _) (Nat.le_refl _) hRcells hRslots
  obtain ⟨s', hA⟩ : ∃ z, z = (T.setVm s.vm).setFrames (.invoking m args :: below) := ⟨_, rfl⟩
  rw [← hA] at Y
  have hvm : s'.vm = s.vm := by rw [hA]; rfl
  have hhp : s'.heap = H := by rw [hA]; exact hT
  have hW0 : s.WarmedH s'.vm := by rw [hvm]; exact State.WarmedH.refl s
  have hat' : ∀ w ∈ xn_at own ic cls ix rx names, w.before args s' = true := fun w hw => vx_ot_at hW0 hvm.symm (hgood w (List.mem_cons_of_mem _ (List.mem_cons_of_mem _ hw))) (hat w hw)
  have hk' : (Cond.classLink own ik cls).before args s' = true := vx_ot_at hW0 hvm.symm (hgood _ List.mem_cons_self) hk
  have hini' : (Cond.initialized cls).before args s' = true := vx_ot_at hW0 hvm.symm (hgood _ (List.mem_cons_of_mem _ List.mem_cons_self)) hini
  have hU' : vx_Zq Bundle.tN "UNASSIGNED_STACK" Bundle.steD A s' s'.heap := by rw [hhp]; exact vx_Zq.moved hW0.alike (hU.kept hS.2.1)
  have hN' : vx_Zq Bundle.tN "SUPPRESSED_SENTINEL" Bundle.listD A s' s'.heap := by rw [hhp]; exact vx_Zq.moved hW0.alike (hN.kept hS.2.1)
  have h : ∀ w ∈ Bundle.ownAtomsX own ic cls ix rx names, w.before args s' = true := vx_own hat' (vx_isRefq hU'.1) (vx_isRefq hN'.1) hU'.2.word hN'.2.word
  have hown' : s'.vm.findClass own = some m.cls := by rw [hvm]; exact hown
  have hins : (Cond.instantiable cls 6).before args s' = true := h _ (by simp [Bundle.ownAtomsX])
  obtain ⟨vm₁, cX, kX, hfX, hkX, -, -, X₁, st1⟩ := Y.newCold hexec (own := own) (C := cls) (index := ik) (n := 6) hown' hk' hins hini'
    (g := F0 m pc ls rest) rfl (by rw [hb]; exact d0) (Nat.le_refl _) (Nat.le_refl _)
  generalize hT1 : (T.setVm vm₁).pushCell { cls := cX, slots := kX.instanceTypes.map defaultValue, vm := .none } = T1 at X₁ st1
  have hcat : (Value.ref T.heap.size).category = 1 := rfl
  have hcellA : T1.heap[T.heap.size]? = some (freshCell cX kX) := by rw [← hT1]; exact State.heap_pushCell_size _ _
  have d3' : decode c.code (pc + 3) = .ok (.dup, 1) := by rw [hb]; exact d3
  have d4' : decode c.code (pc + 4) = .ok (.ldc_w is, 3) := by rw [hb]; exact d4
  have hstr' : vk_R own is text sa s' := vk_R.warm hW0 hstr
  obtain ⟨U, hsteps, hrun, hend, hW, hsame, ce, hce, hOv, hOc⟩ := xn_ctor X₁ hexec htr x0 x1 x2 x5 (own := own) (cls := cls) (names := names) (ic := ic) hown' hcls hnames h (fun x hx => nomatch hx) hfX hkX hcellA (by rw [hhp, hT]; exact Nat.le_refl _) (msg := .ref sa) rfl
    (g := { method := m, pc := pc + 7, locals := ls, stack := .ref sa :: .ref T.heap.size :: .ref T.heap.size :: rest, locked := none }) rfl hsize rfl rfl (rest := rest) rfl
    (by rw [hb]; exact d7) (by rw [hb]; exact d10) hout hRframes (by simp only [List.map_cons, List.sum_cons, hcat]; omega) hlocks
  obtain ⟨f1, f2⟩ := vx_frame hsame
  rw [hhp] at f1 f2
  have hWs : s.WarmedH U.vm := State.WarmedH.trans hW0 hW
  have hcl : s.vm.findClass cls = some ce.cls := by
    have h9 := hOc
    rw [hvm] at h9
    exact h9
  have hall : s.sameButNew ({ U with vm := s.vm } : State) locs mc ms := by
    subst hA
    obtain ⟨e1, e2⟩ := hsame
    rw [State.setFrames_setFrames] at e1
    have h2 : (T.setVm s.vm).sameButNew ({ U with vm := s.vm } : State) [] (0 + 1) (0 + 6) := ⟨e1, e2⟩
    have h3 := X.same.trans h2
    rw [List.append_nil] at h3
    exact h3.mono hc hs
  refine ⟨U, ?_, .threw T.heap.size, hrun, hend, Or.inr ⟨T.heap.size, rfl, cls, ce, locs, hx U hWs.alike f1 (fun q hq => f2 q hq (fun z hz => nomatch hz)), hce, hOv, hcl, hWs, hall, hf⟩⟩
  refine st1 _ ?_
  show Steps p.tables e below (T1.setTop { method := m, pc := pc + 3, locals := ls, stack := .ref T.heap.size :: rest, locked := none }) _
  jvm_step X₁.here [X₁.here.top, hexec, d3', Value.category]
  exact X₁.ldcStringW hexec (own := own) (text := text) (index := is) (a := sa) hown' hstr'.1 hstr'.2
    (g := { method := m, pc := pc + 4, locals := ls, stack := .ref T.heap.size :: .ref T.heap.size :: rest, locked := none }) rfl d4' _ hsteps
end XNT
end
section
def RX0 : String := "TownTable$Diary"
def TX0 : u_T := fun k => match k with
  | 0 => ("TownTable$Diary", "rows", "[I", true)
  | 1 => ("TownTable$Diary", "next", "I", false)
  | 2 => ("TownTable$Diary", "acts", "I", false)
  | 3 => ("TownTable$Diary", "notes", "I", false)
  | 4 => ("TownTable$Diary", "figure", "[I", true)
  | 5 => ("TownTable$Diary", "cell", "[I", true)
  | _ => ("TownTable$Diary", "hours", "[I", true)
def tyX0 : Nat → FieldType := fun k => match k with
  | 0 => .array .int
  | 1 => .int
  | 2 => .int
  | 3 => .int
  | 4 => .array .int
  | 5 => .array .int
  | _ => .array .int
abbrev wsX00 : List Cond := u_ws RX0 TX0 7
theorem nmX0 : ∀ a, a < 7 → ∀ b, b < 7 → a ≠ b → (TX0 a).2.1 ≠ (TX0 b).2.1 := by decide +kernel
theorem tyX0_ok : ∀ k, k < 7 → parseFieldDescriptor (TX0 k).2.2.1 = some (tyX0 k) := by decide +kernel
abbrev cX0_init : ByteArray := prog_2_method_1_code
def yX0_init : MethodName := ⟨RX0, "<init>", "()V"⟩
abbrev cX0_clearActs : ByteArray := prog_2_method_2_code
def yX0_clearActs : MethodName := ⟨RX0, "clearActs", "()V"⟩
abbrev cX0_clearNotes : ByteArray := prog_2_method_3_code
def yX0_clearNotes : MethodName := ⟨RX0, "clearNotes", "()V"⟩
abbrev cX0_keep : ByteArray := prog_2_method_4_code
def yX0_keep : MethodName := ⟨RX0, "keep", "(LTownTable$State;)V"⟩
abbrev cX0_takeBack : ByteArray := prog_2_method_5_code
def yX0_takeBack : MethodName := ⟨RX0, "takeBack", "(LTownTable$State;)V"⟩
abbrev cX0_add : ByteArray := prog_2_method_6_code
def yX0_add : MethodName := ⟨RX0, "add", "(III)V"⟩
abbrev cX0_copyFrom : ByteArray := prog_2_method_7_code
def yX0_copyFrom : MethodName := ⟨RX0, "copyFrom", "(LTownTable$Diary;)V"⟩
abbrev cX0_agrees : ByteArray := prog_2_method_8_code
def yX0_agrees : MethodName := ⟨RX0, "agrees", "(LTownTable$State;I)Z"⟩
def RX1 : String := "TownTable$Guesses"
def TX1 : u_T := fun k => match k with
  | 0 => ("TownTable$Guesses", "trial", "LTownTable$State;", true)
  | 1 => ("TownTable$Guesses", "places", "[J", true)
  | 2 => ("TownTable$Guesses", "many", "I", false)
  | _ => ("TownTable$Guesses", "first", "I", false)
def tyX1 : Nat → FieldType := fun k => match k with
  | 0 => .object "TownTable$State"
  | 1 => .array .long
  | 2 => .int
  | _ => .int
abbrev wsX10 : List Cond := u_ws RX1 TX1 4
theorem nmX1 : ∀ a, a < 4 → ∀ b, b < 4 → a ≠ b → (TX1 a).2.1 ≠ (TX1 b).2.1 := by decide +kernel
theorem tyX1_ok : ∀ k, k < 4 → parseFieldDescriptor (TX1 k).2.2.1 = some (tyX1 k) := by decide +kernel
abbrev cX1_init : ByteArray := prog_3_method_1_code
def yX1_init : MethodName := ⟨RX1, "<init>", "()V"⟩
abbrev cX1_search : ByteArray := prog_3_method_2_code
def yX1_search : MethodName := ⟨RX1, "search", "(LTownTable$Plan;LTownTable$State;LTownTable$Diary;LTownTable$Mover;)V"⟩
abbrev cX1_holdsAll : ByteArray := prog_3_method_3_code
def yX1_holdsAll : MethodName := ⟨RX1, "holdsAll", "(LTownTable$Plan;LTownTable$State;LTownTable$Diary;LTownTable$Mover;)Z"⟩
abbrev cX1_addPlaces : ByteArray := prog_3_method_4_code
def yX1_addPlaces : MethodName := ⟨RX1, "addPlaces", "(LTownTable$Plan;LTownTable$Mover;)V"⟩
def RX2 : String := "TownTable$Mover"
def TX2 : u_T := fun k => match k with
  | _ => ("TownTable$Mover", "values", "[I", true)
def tyX2 : Nat → FieldType := fun k => match k with
  | _ => .array .int
abbrev wsX20 : List Cond := u_ws RX2 TX2 1
theorem nmX2 : ∀ a, a < 1 → ∀ b, b < 1 → a ≠ b → (TX2 a).2.1 ≠ (TX2 b).2.1 := by decide +kernel
theorem tyX2_ok : ∀ k, k < 1 → parseFieldDescriptor (TX2 k).2.2.1 = some (tyX2 k) := by decide +kernel
abbrev cX2_init : ByteArray := prog_4_method_1_code
def yX2_init : MethodName := ⟨RX2, "<init>", "()V"⟩
abbrev cX2_passHours : ByteArray := prog_4_method_2_code
def yX2_passHours : MethodName := ⟨RX2, "passHours", "(LTownTable$Plan;LTownTable$State;I)V"⟩
abbrev cX2_passHour : ByteArray := prog_4_method_3_code
def yX2_passHour : MethodName := ⟨RX2, "passHour", "(LTownTable$Plan;LTownTable$State;Z)V"⟩
abbrev cX2_hurt : ByteArray := prog_4_method_4_code
def yX2_hurt : MethodName := ⟨RX2, "hurt", "(LTownTable$Plan;LTownTable$State;I)V"⟩
abbrev cX2_wantsToGo : ByteArray := prog_4_method_5_code
def yX2_wantsToGo : MethodName := ⟨RX2, "wantsToGo", "(LTownTable$Plan;LTownTable$State;I)Z"⟩
abbrev cX2_go : ByteArray := prog_4_method_6_code
def yX2_go : MethodName := ⟨RX2, "go", "(LTownTable$Plan;LTownTable$State;I)V"⟩
abbrev cX2_setValues : ByteArray := prog_4_method_7_code
def yX2_setValues : MethodName := ⟨RX2, "setValues", "(LTownTable$Plan;LTownTable$State;I)V"⟩
def RX3 : String := "TownTable$Plan"
def TX3 : u_T := fun k => match k with
  | 0 => ("TownTable$Plan", "width", "I", false)
  | 1 => ("TownTable$Plan", "height", "I", false)
  | 2 => ("TownTable$Plan", "walls", "J", false)
  | 3 => ("TownTable$Plan", "figures", "I", false)
  | 4 => ("TownTable$Plan", "start", "[I", true)
  | 5 => ("TownTable$Plan", "steps", "[I", true)
  | 6 => ("TownTable$Plan", "way", "[I", true)
  | 7 => ("TownTable$Plan", "seats", "I", false)
  | 8 => ("TownTable$Plan", "seatCell", "[I", true)
  | 9 => ("TownTable$Plan", "lights", "I", false)
  | 10 => ("TownTable$Plan", "light", "[I", true)
  | 11 => ("TownTable$Plan", "dullTold", "Z", false)
  | 12 => ("TownTable$Plan", "dullBelow", "I", false)
  | 13 => ("TownTable$Plan", "goes", "LTownTable$Rule;", true)
  | _ => ("TownTable$Plan", "hurts", "LTownTable$Rule;", true)
def tyX3 : Nat → FieldType := fun k => match k with
  | 0 => .int
  | 1 => .int
  | 2 => .long
  | 3 => .int
  | 4 => .array .int
  | 5 => .array .int
  | 6 => .array .int
  | 7 => .int
  | 8 => .array .int
  | 9 => .int
  | 10 => .array .int
  | 11 => .boolean
  | 12 => .int
  | 13 => .object "TownTable$Rule"
  | _ => .object "TownTable$Rule"
abbrev wsX30 : List Cond := u_ws RX3 TX3 15
theorem nmX3 : ∀ a, a < 15 → ∀ b, b < 15 → a ≠ b → (TX3 a).2.1 ≠ (TX3 b).2.1 := by decide +kernel
theorem tyX3_ok : ∀ k, k < 15 → parseFieldDescriptor (TX3 k).2.2.1 = some (tyX3 k) := by decide +kernel
abbrev cX3_init : ByteArray := prog_5_method_1_code
def yX3_init : MethodName := ⟨RX3, "<init>", "()V"⟩
abbrev cX3_clear : ByteArray := prog_5_method_2_code
def yX3_clear : MethodName := ⟨RX3, "clear", "()V"⟩
abbrev cX3_cells : ByteArray := prog_5_method_3_code
def yX3_cells : MethodName := ⟨RX3, "cells", "()I"⟩
abbrev cX3_lightOf : ByteArray := prog_5_method_4_code
def yX3_lightOf : MethodName := ⟨RX3, "lightOf", "(I)I"⟩
abbrev cX3_isDull : ByteArray := prog_5_method_5_code
def yX3_isDull : MethodName := ⟨RX3, "isDull", "(I)Z"⟩
abbrev cX3_stepOf : ByteArray := prog_5_method_6_code
def yX3_stepOf : MethodName := ⟨RX3, "stepOf", "(II)I"⟩
abbrev cX3_seatsAt : ByteArray := prog_5_method_7_code
def yX3_seatsAt : MethodName := ⟨RX3, "seatsAt", "(I)I"⟩
abbrev cX3_isWall : ByteArray := prog_5_method_8_code
def yX3_isWall : MethodName := ⟨RX3, "isWall", "(I)Z"⟩
abbrev cX3_isStart : ByteArray := prog_5_method_9_code
def yX3_isStart : MethodName := ⟨RX3, "isStart", "(I)Z"⟩
abbrev cX3_beside : ByteArray := prog_5_method_10_code
def yX3_beside : MethodName := ⟨RX3, "beside", "(II)I"⟩
def RX4 : String := "TownTable$PlanReader"
def TX4 : u_T := fun k => match k with
  | 0 => ("TownTable$PlanReader", "rules", "LTownTable$RuleReader;", true)
  | _ => ("TownTable$PlanReader", "rowSize", "I", false)
def tyX4 : Nat → FieldType := fun k => match k with
  | 0 => .object "TownTable$RuleReader"
  | _ => .int
abbrev wsX40 : List Cond := u_ws RX4 TX4 2
theorem nmX4 : ∀ a, a < 2 → ∀ b, b < 2 → a ≠ b → (TX4 a).2.1 ≠ (TX4 b).2.1 := by decide +kernel
theorem tyX4_ok : ∀ k, k < 2 → parseFieldDescriptor (TX4 k).2.2.1 = some (tyX4 k) := by decide +kernel
abbrev cX4_init : ByteArray := prog_6_method_1_code
def yX4_init : MethodName := ⟨RX4, "<init>", "()V"⟩
abbrev cX4_read : ByteArray := prog_6_method_2_code
def yX4_read : MethodName := ⟨RX4, "read", "(LTownTable$Tape;ILTownTable$Plan;)I"⟩
abbrev cX4_readTable : ByteArray := prog_6_method_3_code
def yX4_readTable : MethodName := ⟨RX4, "readTable", "(LTownTable$Tape;LTownTable$Plan;)I"⟩
abbrev cX4_sideFault : ByteArray := prog_6_method_4_code
def yX4_sideFault : MethodName := ⟨RX4, "sideFault", "(LTownTable$Tape;)I"⟩
abbrev cX4_readStop : ByteArray := prog_6_method_5_code
def yX4_readStop : MethodName := ⟨RX4, "readStop", "(LTownTable$Tape;)I"⟩
abbrev cX4_readLine : ByteArray := prog_6_method_6_code
def yX4_readLine : MethodName := ⟨RX4, "readLine", "(LTownTable$Tape;LTownTable$Plan;)I"⟩
abbrev cX4_cellFault : ByteArray := prog_6_method_7_code
def yX4_cellFault : MethodName := ⟨RX4, "cellFault", "(LTownTable$Tape;LTownTable$Plan;)I"⟩
abbrev cX4_readWall : ByteArray := prog_6_method_8_code
def yX4_readWall : MethodName := ⟨RX4, "readWall", "(LTownTable$Tape;LTownTable$Plan;)I"⟩
abbrev cX4_readFigure : ByteArray := prog_6_method_9_code
def yX4_readFigure : MethodName := ⟨RX4, "readFigure", "(LTownTable$Tape;LTownTable$Plan;)I"⟩
abbrev cX4_readSeat : ByteArray := prog_6_method_10_code
def yX4_readSeat : MethodName := ⟨RX4, "readSeat", "(LTownTable$Tape;LTownTable$Plan;)I"⟩
abbrev cX4_readLight : ByteArray := prog_6_method_11_code
def yX4_readLight : MethodName := ⟨RX4, "readLight", "(LTownTable$Tape;LTownTable$Plan;)I"⟩
abbrev cX4_readRow : ByteArray := prog_6_method_12_code
def yX4_readRow : MethodName := ⟨RX4, "readRow", "(LTownTable$Tape;[III)I"⟩
abbrev cX4_readDull : ByteArray := prog_6_method_13_code
def yX4_readDull : MethodName := ⟨RX4, "readDull", "(LTownTable$Tape;LTownTable$Plan;)I"⟩
def RX5 : String := "TownTable$Rule"
def TX5 : u_T := fun k => match k with
  | 0 => ("TownTable$Rule", "stack", "[I", true)
  | 1 => ("TownTable$Rule", "code", "[I", true)
  | _ => ("TownTable$Rule", "size", "I", false)
def tyX5 : Nat → FieldType := fun k => match k with
  | 0 => .array .int
  | 1 => .array .int
  | _ => .int
abbrev wsX50 : List Cond := u_ws RX5 TX5 3
theorem nmX5 : ∀ a, a < 3 → ∀ b, b < 3 → a ≠ b → (TX5 a).2.1 ≠ (TX5 b).2.1 := by decide +kernel
theorem tyX5_ok : ∀ k, k < 3 → parseFieldDescriptor (TX5 k).2.2.1 = some (tyX5 k) := by decide +kernel
abbrev cX5_init : ByteArray := prog_7_method_1_code
def yX5_init : MethodName := ⟨RX5, "<init>", "()V"⟩
abbrev cX5_clear : ByteArray := prog_7_method_2_code
def yX5_clear : MethodName := ⟨RX5, "clear", "()V"⟩
abbrev cX5_isTold : ByteArray := prog_7_method_3_code
def yX5_isTold : MethodName := ⟨RX5, "isTold", "()Z"⟩
abbrev cX5_add : ByteArray := prog_7_method_4_code
def yX5_add : MethodName := ⟨RX5, "add", "(I)V"⟩
abbrev cX5_value : ByteArray := prog_7_method_5_code
def yX5_value : MethodName := ⟨RX5, "value", "([I)I"⟩
abbrev cX5_join : ByteArray := prog_7_method_6_code
def yX5_join : MethodName := ⟨RX5, "join", "(III)I"⟩
def RX6 : String := "TownTable$RuleReader"
def TX6 : u_T := fun k => match k with
  | 0 => ("TownTable$RuleReader", "waiting", "[I", true)
  | 1 => ("TownTable$RuleReader", "waits", "I", false)
  | 2 => ("TownTable$RuleReader", "depth", "I", false)
  | 3 => ("TownTable$RuleReader", "nots", "I", false)
  | 4 => ("TownTable$RuleReader", "beginsNot", "Z", false)
  | _ => ("TownTable$RuleReader", "partIsDue", "Z", false)
def tyX6 : Nat → FieldType := fun k => match k with
  | 0 => .array .int
  | 1 => .int
  | 2 => .int
  | 3 => .int
  | 4 => .boolean
  | _ => .boolean
abbrev wsX60 : List Cond := u_ws RX6 TX6 6
theorem nmX6 : ∀ a, a < 6 → ∀ b, b < 6 → a ≠ b → (TX6 a).2.1 ≠ (TX6 b).2.1 := by decide +kernel
theorem tyX6_ok : ∀ k, k < 6 → parseFieldDescriptor (TX6 k).2.2.1 = some (tyX6 k) := by decide +kernel
abbrev cX6_init : ByteArray := prog_8_method_1_code
def yX6_init : MethodName := ⟨RX6, "<init>", "()V"⟩
abbrev cX6_read : ByteArray := prog_8_method_2_code
def yX6_read : MethodName := ⟨RX6, "read", "(LTownTable$Tape;LTownTable$Rule;Z)I"⟩
abbrev cX6_isEnd : ByteArray := prog_8_method_3_code
def yX6_isEnd : MethodName := ⟨RX6, "isEnd", "(LTownTable$Tape;)Z"⟩
abbrev cX6_beginPart : ByteArray := prog_8_method_4_code
def yX6_beginPart : MethodName := ⟨RX6, "beginPart", "(Z)V"⟩
abbrev cX6_readPart : ByteArray := prog_8_method_5_code
def yX6_readPart : MethodName := ⟨RX6, "readPart", "(LTownTable$Tape;LTownTable$Rule;Z)I"⟩
abbrev cX6_readNumber : ByteArray := prog_8_method_6_code
def yX6_readNumber : MethodName := ⟨RX6, "readNumber", "(LTownTable$Tape;LTownTable$Rule;)I"⟩
abbrev cX6_readWord : ByteArray := prog_8_method_7_code
def yX6_readWord : MethodName := ⟨RX6, "readWord", "(LTownTable$Tape;LTownTable$Rule;Z)I"⟩
abbrev cX6_valueOf : ByteArray := prog_8_method_8_code
def yX6_valueOf : MethodName := ⟨RX6, "valueOf", "(LTownTable$Tape;Z)I"⟩
abbrev cX6_readOperator : ByteArray := prog_8_method_9_code
def yX6_readOperator : MethodName := ⟨RX6, "readOperator", "(LTownTable$Tape;LTownTable$Rule;)I"⟩
abbrev cX6_operatorOf : ByteArray := prog_8_method_10_code
def yX6_operatorOf : MethodName := ⟨RX6, "operatorOf", "(LTownTable$Tape;)I"⟩
abbrev cX6_rankOf : ByteArray := prog_8_method_11_code
def yX6_rankOf : MethodName := ⟨RX6, "rankOf", "(I)I"⟩
abbrev cX6_push : ByteArray := prog_8_method_12_code
def yX6_push : MethodName := ⟨RX6, "push", "(I)V"⟩
abbrev cX6_release : ByteArray := prog_8_method_13_code
def yX6_release : MethodName := ⟨RX6, "release", "(LTownTable$Rule;I)V"⟩
def RX7 : String := "TownTable$Seating"
def TX7 : u_T := fun k => match k with
  | 0 => ("TownTable$Seating", "farTo", "[I", true)
  | 1 => ("TownTable$Seating", "best", "[I", true)
  | 2 => ("TownTable$Seating", "seatOf", "[I", true)
  | 3 => ("TownTable$Seating", "placed", "I", false)
  | _ => ("TownTable$Seating", "far", "I", false)
def tyX7 : Nat → FieldType := fun k => match k with
  | 0 => .array .int
  | 1 => .array .int
  | 2 => .array .int
  | 3 => .int
  | _ => .int
abbrev wsX70 : List Cond := u_ws RX7 TX7 5
theorem nmX7 : ∀ a, a < 5 → ∀ b, b < 5 → a ≠ b → (TX7 a).2.1 ≠ (TX7 b).2.1 := by decide +kernel
theorem tyX7_ok : ∀ k, k < 5 → parseFieldDescriptor (TX7 k).2.2.1 = some (tyX7 k) := by decide +kernel
abbrev cX7_init : ByteArray := prog_9_method_1_code
def yX7_init : MethodName := ⟨RX7, "<init>", "()V"⟩
abbrev cX7_place : ByteArray := prog_9_method_2_code
def yX7_place : MethodName := ⟨RX7, "place", "(LTownTable$Plan;LTownTable$State;LTownTable$Ways;)V"⟩
abbrev cX7_measureAll : ByteArray := prog_9_method_3_code
def yX7_measureAll : MethodName := ⟨RX7, "measureAll", "(LTownTable$Plan;LTownTable$State;LTownTable$Ways;)V"⟩
abbrev cX7_bestFrom : ByteArray := prog_9_method_4_code
def yX7_bestFrom : MethodName := ⟨RX7, "bestFrom", "(LTownTable$Plan;II)I"⟩
abbrev cX7_worthAt : ByteArray := prog_9_method_5_code
def yX7_worthAt : MethodName := ⟨RX7, "worthAt", "(III)I"⟩
abbrev cX7_choose : ByteArray := prog_9_method_6_code
def yX7_choose : MethodName := ⟨RX7, "choose", "(LTownTable$Plan;)V"⟩
def RX8 : String := "TownTable$State"
def TX8 : u_T := fun k => match k with
  | 0 => ("TownTable$State", "hour", "I", false)
  | 1 => ("TownTable$State", "pence", "I", false)
  | 2 => ("TownTable$State", "walls", "J", false)
  | 3 => ("TownTable$State", "figures", "I", false)
  | 4 => ("TownTable$State", "cell", "[I", true)
  | 5 => ("TownTable$State", "sore", "[I", true)
  | 6 => ("TownTable$State", "held", "[I", true)
  | _ => ("TownTable$State", "lead", "[I", true)
def tyX8 : Nat → FieldType := fun k => match k with
  | 0 => .int
  | 1 => .int
  | 2 => .long
  | 3 => .int
  | 4 => .array .int
  | 5 => .array .int
  | 6 => .array .int
  | _ => .array .int
abbrev wsX80 : List Cond := u_ws RX8 TX8 8
theorem nmX8 : ∀ a, a < 8 → ∀ b, b < 8 → a ≠ b → (TX8 a).2.1 ≠ (TX8 b).2.1 := by decide +kernel
theorem tyX8_ok : ∀ k, k < 8 → parseFieldDescriptor (TX8 k).2.2.1 = some (tyX8 k) := by decide +kernel
abbrev cX8_init : ByteArray := prog_10_method_1_code
def yX8_init : MethodName := ⟨RX8, "<init>", "()V"⟩
abbrev cX8_begin : ByteArray := prog_10_method_2_code
def yX8_begin : MethodName := ⟨RX8, "begin", "(LTownTable$Plan;)V"⟩
abbrev cX8_copyFrom : ByteArray := prog_10_method_3_code
def yX8_copyFrom : MethodName := ⟨RX8, "copyFrom", "(LTownTable$State;)V"⟩
abbrev cX8_saveTo : ByteArray := prog_10_method_4_code
def yX8_saveTo : MethodName := ⟨RX8, "saveTo", "([II)V"⟩
abbrev cX8_loadFrom : ByteArray := prog_10_method_5_code
def yX8_loadFrom : MethodName := ⟨RX8, "loadFrom", "([II)V"⟩
abbrev cX8_isWall : ByteArray := prog_10_method_6_code
def yX8_isWall : MethodName := ⟨RX8, "isWall", "(I)Z"⟩
abbrev cX8_figuresAt : ByteArray := prog_10_method_7_code
def yX8_figuresAt : MethodName := ⟨RX8, "figuresAt", "(I)I"⟩
abbrev cX8_othersWith : ByteArray := prog_10_method_8_code
def yX8_othersWith : MethodName := ⟨RX8, "othersWith", "(I)I"⟩
abbrev cX8_aloneBits : ByteArray := prog_10_method_9_code
def yX8_aloneBits : MethodName := ⟨RX8, "aloneBits", "()I"⟩
abbrev cX8_placedAsBits : ByteArray := prog_10_method_10_code
def yX8_placedAsBits : MethodName := ⟨RX8, "placedAsBits", "(LTownTable$State;)I"⟩
abbrev cX8_isPlacedAs : ByteArray := prog_10_method_11_code
def yX8_isPlacedAs : MethodName := ⟨RX8, "isPlacedAs", "(LTownTable$State;)Z"⟩
abbrev cX8_places : ByteArray := prog_10_method_12_code
def yX8_places : MethodName := ⟨RX8, "places", "()J"⟩
abbrev cX8_soreOfAll : ByteArray := prog_10_method_13_code
def yX8_soreOfAll : MethodName := ⟨RX8, "soreOfAll", "()I"⟩
abbrev cX8_heldBits : ByteArray := prog_10_method_14_code
def yX8_heldBits : MethodName := ⟨RX8, "heldBits", "()I"⟩
def RX9 : String := "TownTable$Tape"
def TX9 : u_T := fun k => match k with
  | 0 => ("TownTable$Tape", "bytes", "[C", true)
  | 1 => ("TownTable$Tape", "size", "I", false)
  | 2 => ("TownTable$Tape", "length", "I", false)
  | 3 => ("TownTable$Tape", "place", "I", false)
  | 4 => ("TownTable$Tape", "end", "I", false)
  | 5 => ("TownTable$Tape", "kind", "I", false)
  | _ => ("TownTable$Tape", "number", "I", false)
def tyX9 : Nat → FieldType := fun k => match k with
  | 0 => .array .char
  | 1 => .int
  | 2 => .int
  | 3 => .int
  | 4 => .int
  | 5 => .int
  | _ => .int
abbrev wsX90 : List Cond := u_ws RX9 TX9 7
theorem nmX9 : ∀ a, a < 7 → ∀ b, b < 7 → a ≠ b → (TX9 a).2.1 ≠ (TX9 b).2.1 := by decide +kernel
theorem tyX9_ok : ∀ k, k < 7 → parseFieldDescriptor (TX9 k).2.2.1 = some (tyX9 k) := by decide +kernel
abbrev cX9_init : ByteArray := prog_11_method_1_code
def yX9_init : MethodName := ⟨RX9, "<init>", "()V"⟩
abbrev cX9_add : ByteArray := prog_11_method_2_code
def yX9_add : MethodName := ⟨RX9, "add", "(I)V"⟩
abbrev cX9_begin : ByteArray := prog_11_method_3_code
def yX9_begin : MethodName := ⟨RX9, "begin", "(I)V"⟩
abbrev cX9_advance : ByteArray := prog_11_method_4_code
def yX9_advance : MethodName := ⟨RX9, "advance", "()V"⟩
abbrev cX9_readNumber : ByteArray := prog_11_method_5_code
def yX9_readNumber : MethodName := ⟨RX9, "readNumber", "()V"⟩
abbrev cX9_isLetter : ByteArray := prog_11_method_6_code
def yX9_isLetter : MethodName := ⟨RX9, "isLetter", "(C)Z"⟩
abbrev cX9_isDigit : ByteArray := prog_11_method_7_code
def yX9_isDigit : MethodName := ⟨RX9, "isDigit", "(C)Z"⟩
abbrev cX9_hasManyDigits : ByteArray := prog_11_method_8_code
def yX9_hasManyDigits : MethodName := ⟨RX9, "hasManyDigits", "()Z"⟩
abbrev cX9_isNumber : ByteArray := prog_11_method_9_code
def yX9_isNumber : MethodName := ⟨RX9, "isNumber", "(I)Z"⟩
abbrev cX9_isSign : ByteArray := prog_11_method_10_code
def yX9_isSign : MethodName := ⟨RX9, "isSign", "(C)Z"⟩
abbrev cX9_sign : ByteArray := prog_11_method_11_code
def yX9_sign : MethodName := ⟨RX9, "sign", "()I"⟩
abbrev cX9_isWord : ByteArray := prog_11_method_12_code
def yX9_isWord : MethodName := ⟨RX9, "isWord", "(Ljava/lang/String;)Z"⟩
def RX10 : String := "TownTable$Ways"
def TX10 : u_T := fun k => match k with
  | 0 => ("TownTable$Ways", "far", "[I", true)
  | _ => ("TownTable$Ways", "queue", "[I", true)
def tyX10 : Nat → FieldType := fun k => match k with
  | 0 => .array .int
  | _ => .array .int
abbrev wsX100 : List Cond := u_ws RX10 TX10 2
theorem nmX10 : ∀ a, a < 2 → ∀ b, b < 2 → a ≠ b → (TX10 a).2.1 ≠ (TX10 b).2.1 := by decide +kernel
theorem tyX10_ok : ∀ k, k < 2 → parseFieldDescriptor (TX10 k).2.2.1 = some (tyX10 k) := by decide +kernel
abbrev cX10_init : ByteArray := prog_12_method_1_code
def yX10_init : MethodName := ⟨RX10, "<init>", "()V"⟩
abbrev cX10_measure : ByteArray := prog_12_method_2_code
def yX10_measure : MethodName := ⟨RX10, "measure", "(LTownTable$Plan;LTownTable$State;I)V"⟩
abbrev cX10_firstStep : ByteArray := prog_12_method_3_code
def yX10_firstStep : MethodName := ⟨RX10, "firstStep", "(LTownTable$Plan;LTownTable$State;I)I"⟩
abbrev cX10_parts : ByteArray := prog_12_method_4_code
def yX10_parts : MethodName := ⟨RX10, "parts", "(LTownTable$Plan;LTownTable$State;)I"⟩
abbrev cX10_seenFrom : ByteArray := prog_12_method_5_code
def yX10_seenFrom : MethodName := ⟨RX10, "seenFrom", "(LTownTable$Plan;LTownTable$State;I)I"⟩
def RX11 : String := "TownTable"
def TX11 : u_T := fun k => match k with
  | 0 => ("TownTable", "tape", "LTownTable$Tape;", true)
  | 1 => ("TownTable", "reader", "LTownTable$PlanReader;", true)
  | 2 => ("TownTable", "faultPlace", "I", false)
  | 3 => ("TownTable", "refused", "[I", true)
  | 4 => ("TownTable", "plan", "LTownTable$Plan;", false)
  | 5 => ("TownTable", "spare", "LTownTable$Plan;", false)
  | 6 => ("TownTable", "now", "LTownTable$State;", true)
  | 7 => ("TownTable", "diary", "LTownTable$Diary;", true)
  | 8 => ("TownTable", "imaged", "Z", false)
  | 9 => ("TownTable", "imageState", "LTownTable$State;", true)
  | 10 => ("TownTable", "imageDiary", "LTownTable$Diary;", true)
  | 11 => ("TownTable", "mover", "LTownTable$Mover;", true)
  | 12 => ("TownTable", "future", "LTownTable$State;", true)
  | 13 => ("TownTable", "ways", "LTownTable$Ways;", true)
  | 14 => ("TownTable", "seating", "LTownTable$Seating;", true)
  | 15 => ("TownTable", "guesses", "LTownTable$Guesses;", true)
  | 16 => ("TownTable", "visits", "[I", true)
  | 17 => ("TownTable", "met", "[I", true)
  | 18 => ("TownTable", "gains", "[I", true)
  | _ => ("TownTable", "seed", "I", false)
def tyX11 : Nat → FieldType := fun k => match k with
  | 0 => .object "TownTable$Tape"
  | 1 => .object "TownTable$PlanReader"
  | 2 => .int
  | 3 => .array .int
  | 4 => .object "TownTable$Plan"
  | 5 => .object "TownTable$Plan"
  | 6 => .object "TownTable$State"
  | 7 => .object "TownTable$Diary"
  | 8 => .boolean
  | 9 => .object "TownTable$State"
  | 10 => .object "TownTable$Diary"
  | 11 => .object "TownTable$Mover"
  | 12 => .object "TownTable$State"
  | 13 => .object "TownTable$Ways"
  | 14 => .object "TownTable$Seating"
  | 15 => .object "TownTable$Guesses"
  | 16 => .array .int
  | 17 => .array .int
  | 18 => .array .int
  | _ => .int
abbrev wsX110 : List Cond := u_ws RX11 TX11 20
theorem nmX11 : ∀ a, a < 20 → ∀ b, b < 20 → a ≠ b → (TX11 a).2.1 ≠ (TX11 b).2.1 := by decide +kernel
theorem tyX11_ok : ∀ k, k < 20 → parseFieldDescriptor (TX11 k).2.2.1 = some (tyX11 k) := by decide +kernel
abbrev cX11_init : ByteArray := prog_1_method_1_code
def yX11_init : MethodName := ⟨RX11, "<init>", "()V"⟩
abbrev cX11_feed : ByteArray := prog_1_method_2_code
def yX11_feed : MethodName := ⟨RX11, "feed", "(IIIII)I"⟩
abbrev cX11_town : ByteArray := prog_1_method_3_code
def yX11_town : MethodName := ⟨RX11, "town", "(I)I"⟩
abbrev cX11_fault : ByteArray := prog_1_method_4_code
def yX11_fault : MethodName := ⟨RX11, "fault", "()I"⟩
abbrev cX11_count : ByteArray := prog_1_method_5_code
def yX11_count : MethodName := ⟨RX11, "count", "(I)I"⟩
abbrev cX11_figure : ByteArray := prog_1_method_6_code
def yX11_figure : MethodName := ⟨RX11, "figure", "(II)I"⟩
abbrev cX11_cell : ByteArray := prog_1_method_7_code
def yX11_cell : MethodName := ⟨RX11, "cell", "(II)I"⟩
abbrev cX11_hours : ByteArray := prog_1_method_8_code
def yX11_hours : MethodName := ⟨RX11, "hours", "(I)I"⟩
abbrev cX11_stop : ByteArray := prog_1_method_9_code
def yX11_stop : MethodName := ⟨RX11, "stop", "(II)I"⟩
abbrev cX11_lift : ByteArray := prog_1_method_10_code
def yX11_lift : MethodName := ⟨RX11, "lift", "(II)I"⟩
abbrev cX11_brush : ByteArray := prog_1_method_11_code
def yX11_brush : MethodName := ⟨RX11, "brush", "(I)I"⟩
abbrev cX11_wall : ByteArray := prog_1_method_12_code
def yX11_wall : MethodName := ⟨RX11, "wall", "(IZ)Z"⟩
abbrev cX11_undo : ByteArray := prog_1_method_13_code
def yX11_undo : MethodName := ⟨RX11, "undo", "()I"⟩
abbrev cX11_then : ByteArray := prog_1_method_14_code
def yX11_then : MethodName := ⟨RX11, "then", "(III)I"⟩
abbrev cX11_comes : ByteArray := prog_1_method_15_code
def yX11_comes : MethodName := ⟨RX11, "comes", "(II)I"⟩
abbrev cX11_meet : ByteArray := prog_1_method_16_code
def yX11_meet : MethodName := ⟨RX11, "meet", "(II)I"⟩
abbrev cX11_crowd : ByteArray := prog_1_method_17_code
def yX11_crowd : MethodName := ⟨RX11, "crowd", "(II)I"⟩
abbrev cX11_round : ByteArray := prog_1_method_18_code
def yX11_round : MethodName := ⟨RX11, "round", "()I"⟩
abbrev cX11_spread : ByteArray := prog_1_method_19_code
def yX11_spread : MethodName := ⟨RX11, "spread", "(II)I"⟩
abbrev cX11_way : ByteArray := prog_1_method_20_code
def yX11_way : MethodName := ⟨RX11, "way", "(III)I"⟩
abbrev cX11_toStop : ByteArray := prog_1_method_21_code
def yX11_toStop : MethodName := ⟨RX11, "toStop", "(III)I"⟩
abbrev cX11_toThin : ByteArray := prog_1_method_22_code
def yX11_toThin : MethodName := ⟨RX11, "toThin", "(I)I"⟩
abbrev cX11_seats : ByteArray := prog_1_method_23_code
def yX11_seats : MethodName := ⟨RX11, "seats", "(I)I"⟩
abbrev cX11_seat : ByteArray := prog_1_method_24_code
def yX11_seat : MethodName := ⟨RX11, "seat", "(I)I"⟩
abbrev cX11_note : ByteArray := prog_1_method_25_code
def yX11_note : MethodName := ⟨RX11, "note", "(III)I"⟩
abbrev cX11_forget : ByteArray := prog_1_method_26_code
def yX11_forget : MethodName := ⟨RX11, "forget", "()V"⟩
abbrev cX11_ahead : ByteArray := prog_1_method_27_code
def yX11_ahead : MethodName := ⟨RX11, "ahead", "(I)I"⟩
abbrev cX11_look : ByteArray := prog_1_method_28_code
def yX11_look : MethodName := ⟨RX11, "look", "(I)I"⟩
abbrev cX11_clouds : ByteArray := prog_1_method_29_code
def yX11_clouds : MethodName := ⟨RX11, "clouds", "(IIII)I"⟩
abbrev cX11_game : ByteArray := prog_1_method_30_code
def yX11_game : MethodName := ⟨RX11, "game", "(III)I"⟩
abbrev cX11_years : ByteArray := prog_1_method_31_code
def yX11_years : MethodName := ⟨RX11, "years", "(III)I"⟩
abbrev cX11_later : ByteArray := prog_1_method_32_code
def yX11_later : MethodName := ⟨RX11, "later", "(II)I"⟩
abbrev cX11_together : ByteArray := prog_1_method_33_code
def yX11_together : MethodName := ⟨RX11, "together", "(III)I"⟩
abbrev cX11_quiet : ByteArray := prog_1_method_34_code
def yX11_quiet : MethodName := ⟨RX11, "quiet", "(II)I"⟩
abbrev cX11_gone : ByteArray := prog_1_method_35_code
def yX11_gone : MethodName := ⟨RX11, "gone", "(II)I"⟩
abbrev cX11_image : ByteArray := prog_1_method_36_code
def yX11_image : MethodName := ⟨RX11, "image", "()V"⟩
abbrev cX11_restore : ByteArray := prog_1_method_37_code
def yX11_restore : MethodName := ⟨RX11, "restore", "()Z"⟩
abbrev cX11_checkFigure : ByteArray := prog_1_method_38_code
def yX11_checkFigure : MethodName := ⟨RX11, "checkFigure", "(I)V"⟩
abbrev cX11_checkCell : ByteArray := prog_1_method_39_code
def yX11_checkCell : MethodName := ⟨RX11, "checkCell", "(I)V"⟩
abbrev cX11_checkWhat : ByteArray := prog_1_method_40_code
def yX11_checkWhat : MethodName := ⟨RX11, "checkWhat", "(II)V"⟩
abbrev cX11_checkHours : ByteArray := prog_1_method_41_code
def yX11_checkHours : MethodName := ⟨RX11, "checkHours", "(III)V"⟩
abbrev cX11_refuseAct : ByteArray := prog_1_method_42_code
def yX11_refuseAct : MethodName := ⟨RX11, "refuseAct", "()I"⟩
abbrev cX11_pay : ByteArray := prog_1_method_43_code
def yX11_pay : MethodName := ⟨RX11, "pay", "(I)V"⟩
abbrev cX11_foresee : ByteArray := prog_1_method_44_code
def yX11_foresee : MethodName := ⟨RX11, "foresee", "(I)V"⟩
abbrev cX11_passFuture : ByteArray := prog_1_method_45_code
def yX11_passFuture : MethodName := ⟨RX11, "passFuture", "()V"⟩
abbrev cX11_addMeetings : ByteArray := prog_1_method_46_code
def yX11_addMeetings : MethodName := ⟨RX11, "addMeetings", "()V"⟩
abbrev cX11_noneMeets : ByteArray := prog_1_method_47_code
def yX11_noneMeets : MethodName := ⟨RX11, "noneMeets", "(I)Z"⟩
abbrev cX11_play : ByteArray := prog_1_method_48_code
def yX11_play : MethodName := ⟨RX11, "play", "(III)V"⟩
abbrev cX11_rests : ByteArray := prog_1_method_49_code
def yX11_rests : MethodName := ⟨RX11, "rests", "(I)Z"⟩
abbrev cX11_draw : ByteArray := prog_1_method_50_code
def yX11_draw : MethodName := ⟨RX11, "draw", "(I)I"⟩
abbrev cX11_drawFate : ByteArray := prog_1_method_51_code
def yX11_drawFate : MethodName := ⟨RX11, "drawFate", "()V"⟩
abbrev cX11_busiest : ByteArray := prog_1_method_52_code
def yX11_busiest : MethodName := ⟨RX11, "busiest", "(I)I"⟩
abbrev cX11_sorest : ByteArray := prog_1_method_53_code
def yX11_sorest : MethodName := ⟨RX11, "sorest", "(I)I"⟩
abbrev cX11_alone : ByteArray := prog_1_method_54_code
def yX11_alone : MethodName := ⟨RX11, "alone", "(I)I"⟩
abbrev cX11_stuck : ByteArray := prog_1_method_55_code
def yX11_stuck : MethodName := ⟨RX11, "stuck", "(I)I"⟩
def RX12 : String := "TownTableModel"
def TX12 : u_T := fun k => match k with
  | 0 => ("TownTableModel", "thrown", "I", false)
  | 1 => ("TownTableModel", "wide", "I", false)
  | 2 => ("TownTableModel", "tall", "I", false)
  | 3 => ("TownTableModel", "figures", "I", false)
  | 4 => ("TownTableModel", "seats", "I", false)
  | 5 => ("TownTableModel", "lightLong", "I", false)
  | 6 => ("TownTableModel", "dull", "I", false)
  | 7 => ("TownTableModel", "goesAt", "I", false)
  | 8 => ("TownTableModel", "hurtsAt", "I", false)
  | 9 => ("TownTableModel", "wayLong", "[I", true)
  | 10 => ("TownTableModel", "ways", "[I", true)
  | 11 => ("TownTableModel", "seatAt", "[I", true)
  | 12 => ("TownTableModel", "light", "[I", true)
  | 13 => ("TownTableModel", "code", "[I", true)
  | 14 => ("TownTableModel", "tape", "[I", true)
  | 15 => ("TownTableModel", "taped", "I", false)
  | 16 => ("TownTableModel", "faultKind", "I", false)
  | 17 => ("TownTableModel", "faultPlace", "I", false)
  | 18 => ("TownTableModel", "refused", "[I", true)
  | 19 => ("TownTableModel", "long1", "I", false)
  | 20 => ("TownTableModel", "next0", "I", false)
  | 21 => ("TownTableModel", "sort", "I", false)
  | 22 => ("TownTableModel", "place", "I", false)
  | 23 => ("TownTableModel", "long0", "I", false)
  | 24 => ("TownTableModel", "value", "I", false)
  | 25 => ("TownTableModel", "sign", "I", false)
  | 26 => ("TownTableModel", "word", "J", false)
  | 27 => ("TownTableModel", "newWide", "I", false)
  | 28 => ("TownTableModel", "newTall", "I", false)
  | 29 => ("TownTableModel", "newFigures", "I", false)
  | 30 => ("TownTableModel", "newSeats", "I", false)
  | 31 => ("TownTableModel", "newLightLong", "I", false)
  | 32 => ("TownTableModel", "newDull", "I", false)
  | 33 => ("TownTableModel", "newGoesAt", "I", false)
  | 34 => ("TownTableModel", "newHurtsAt", "I", false)
  | 35 => ("TownTableModel", "top", "I", false)
  | 36 => ("TownTableModel", "firstValue", "I", false)
  | 37 => ("TownTableModel", "lastValue", "I", false)
  | 38 => ("TownTableModel", "waiting", "I", false)
  | 39 => ("TownTableModel", "depth", "I", false)
  | 40 => ("TownTableModel", "newWayLong", "[I", true)
  | 41 => ("TownTableModel", "newWays", "[I", true)
  | 42 => ("TownTableModel", "newSeatAt", "[I", true)
  | 43 => ("TownTableModel", "newLight", "[I", true)
  | 44 => ("TownTableModel", "newRow", "[I", true)
  | 45 => ("TownTableModel", "readCode", "[I", true)
  | 46 => ("TownTableModel", "waits", "[I", true)
  | 47 => ("TownTableModel", "tested", "[Z", true)
  | 48 => ("TownTableModel", "rows", "[I", true)
  | 49 => ("TownTableModel", "kept0", "[I", true)
  | 50 => ("TownTableModel", "acts", "I", false)
  | 51 => ("TownTableModel", "told", "[I", true)
  | 52 => ("TownTableModel", "pile", "[I", true)
  | 53 => ("TownTableModel", "dullAs", "I", false)
  | 54 => ("TownTableModel", "far", "[I", true)
  | 55 => ("TownTableModel", "queue", "[I", true)
  | 56 => ("TownTableModel", "often", "[I", true)
  | 57 => ("TownTableModel", "meets", "[I", true)
  | 58 => ("TownTableModel", "seatFar", "[I", true)
  | 59 => ("TownTableModel", "least", "[I", true)
  | 60 => ("TownTableModel", "notedMany", "I", false)
  | 61 => ("TownTableModel", "noted", "[I", true)
  | 62 => ("TownTableModel", "soon", "[I", true)
  | 63 => ("TownTableModel", "soonAll", "[I", true)
  | 64 => ("TownTableModel", "its0", "I", false)
  | 65 => ("TownTableModel", "hasImage", "Z", false)
  | 66 => ("TownTableModel", "imageActs", "I", false)
  | 67 => ("TownTableModel", "imageNoted", "I", false)
  | 68 => ("TownTableModel", "imageRow", "[I", true)
  | 69 => ("TownTableModel", "imageKept", "[I", true)
  | _ => ("TownTableModel", "imageNotes", "[I", true)
def tyX12 : Nat → FieldType := fun k => match k with
  | 0 => .int
  | 1 => .int
  | 2 => .int
  | 3 => .int
  | 4 => .int
  | 5 => .int
  | 6 => .int
  | 7 => .int
  | 8 => .int
  | 9 => .array .int
  | 10 => .array .int
  | 11 => .array .int
  | 12 => .array .int
  | 13 => .array .int
  | 14 => .array .int
  | 15 => .int
  | 16 => .int
  | 17 => .int
  | 18 => .array .int
  | 19 => .int
  | 20 => .int
  | 21 => .int
  | 22 => .int
  | 23 => .int
  | 24 => .int
  | 25 => .int
  | 26 => .long
  | 27 => .int
  | 28 => .int
  | 29 => .int
  | 30 => .int
  | 31 => .int
  | 32 => .int
  | 33 => .int
  | 34 => .int
  | 35 => .int
  | 36 => .int
  | 37 => .int
  | 38 => .int
  | 39 => .int
  | 40 => .array .int
  | 41 => .array .int
  | 42 => .array .int
  | 43 => .array .int
  | 44 => .array .int
  | 45 => .array .int
  | 46 => .array .int
  | 47 => .array .boolean
  | 48 => .array .int
  | 49 => .array .int
  | 50 => .int
  | 51 => .array .int
  | 52 => .array .int
  | 53 => .int
  | 54 => .array .int
  | 55 => .array .int
  | 56 => .array .int
  | 57 => .array .int
  | 58 => .array .int
  | 59 => .array .int
  | 60 => .int
  | 61 => .array .int
  | 62 => .array .int
  | 63 => .array .int
  | 64 => .int
  | 65 => .boolean
  | 66 => .int
  | 67 => .int
  | 68 => .array .int
  | 69 => .array .int
  | _ => .array .int
abbrev wsX120 : List Cond := u_ws RX12 TX12 71
theorem nmX12 : ∀ a, a < 71 → ∀ b, b < 71 → a ≠ b → (TX12 a).2.1 ≠ (TX12 b).2.1 := by decide +kernel
theorem tyX12_ok : ∀ k, k < 71 → parseFieldDescriptor (TX12 k).2.2.1 = some (tyX12 k) := by decide +kernel
abbrev cX12_init : ByteArray := prog_14_method_1_code
def yX12_init : MethodName := ⟨RX12, "<init>", "()V"⟩
abbrev cX12_thrown : ByteArray := prog_14_method_2_code
def yX12_thrown : MethodName := ⟨RX12, "thrown", "()I"⟩
abbrev cX12_right : ByteArray := prog_14_method_3_code
def yX12_right : MethodName := ⟨RX12, "right", "(ZI)Z"⟩
abbrev cX12_within : ByteArray := prog_14_method_4_code
def yX12_within : MethodName := ⟨RX12, "within", "(III)Z"⟩
abbrev cX12_bounded : ByteArray := prog_14_method_5_code
def yX12_bounded : MethodName := ⟨RX12, "bounded", "(III)I"⟩
abbrev cX12_lesser : ByteArray := prog_14_method_6_code
def yX12_lesser : MethodName := ⟨RX12, "lesser", "(II)I"⟩
abbrev cX12_copies : ByteArray := prog_14_method_7_code
def yX12_copies : MethodName := ⟨RX12, "copies", "([I[I)V"⟩
abbrev cX12_bits : ByteArray := prog_14_method_8_code
def yX12_bits : MethodName := ⟨RX12, "bits", "(I)I"⟩
abbrev cX12_feed : ByteArray := prog_14_method_9_code
def yX12_feed : MethodName := ⟨RX12, "feed", "(IIIII)I"⟩
abbrev cX12_lays : ByteArray := prog_14_method_10_code
def yX12_lays : MethodName := ⟨RX12, "lays", "(I)V"⟩
abbrev cX12_byteAt : ByteArray := prog_14_method_11_code
def yX12_byteAt : MethodName := ⟨RX12, "byteAt", "(I)I"⟩
abbrev cX12_isLetter : ByteArray := prog_14_method_12_code
def yX12_isLetter : MethodName := ⟨RX12, "isLetter", "(I)Z"⟩
abbrev cX12_isDigit : ByteArray := prog_14_method_13_code
def yX12_isDigit : MethodName := ⟨RX12, "isDigit", "(I)Z"⟩
abbrev cX12_goes : ByteArray := prog_14_method_14_code
def yX12_goes : MethodName := ⟨RX12, "goes", "()V"⟩
abbrev cX12_spelled : ByteArray := prog_14_method_15_code
def yX12_spelled : MethodName := ⟨RX12, "spelled", "(IIIIII)J"⟩
abbrev cX12_letters : ByteArray := prog_14_method_16_code
def yX12_letters : MethodName := ⟨RX12, "letters", "(I)J"⟩
abbrev cX12_knownWord : ByteArray := prog_14_method_17_code
def yX12_knownWord : MethodName := ⟨RX12, "knownWord", "()I"⟩
abbrev cX12_wrong : ByteArray := prog_14_method_18_code
def yX12_wrong : MethodName := ⟨RX12, "wrong", "(I)V"⟩
abbrev cX12_isGood : ByteArray := prog_14_method_19_code
def yX12_isGood : MethodName := ⟨RX12, "isGood", "()Z"⟩
abbrev cX12_isSign : ByteArray := prog_14_method_20_code
def yX12_isSign : MethodName := ⟨RX12, "isSign", "(I)Z"⟩
abbrev cX12_need : ByteArray := prog_14_method_21_code
def yX12_need : MethodName := ⟨RX12, "need", "(Z)V"⟩
abbrev cX12_number : ByteArray := prog_14_method_22_code
def yX12_number : MethodName := ⟨RX12, "number", "(II)I"⟩
abbrev cX12_cellHere : ByteArray := prog_14_method_23_code
def yX12_cellHere : MethodName := ⟨RX12, "cellHere", "()I"⟩
abbrev cX12_puts : ByteArray := prog_14_method_24_code
def yX12_puts : MethodName := ⟨RX12, "puts", "(I)V"⟩
abbrev cX12_isOpen : ByteArray := prog_14_method_25_code
def yX12_isOpen : MethodName := ⟨RX12, "isOpen", "(I)Z"⟩
abbrev cX12_strength : ByteArray := prog_14_method_26_code
def yX12_strength : MethodName := ⟨RX12, "strength", "(I)I"⟩
abbrev cX12_drops : ByteArray := prog_14_method_27_code
def yX12_drops : MethodName := ⟨RX12, "drops", "(I)V"⟩
abbrev cX12_waitsFor : ByteArray := prog_14_method_28_code
def yX12_waitsFor : MethodName := ⟨RX12, "waitsFor", "(I)V"⟩
abbrev cX12_part : ByteArray := prog_14_method_29_code
def yX12_part : MethodName := ⟨RX12, "part", "()V"⟩
abbrev cX12_deeper : ByteArray := prog_14_method_30_code
def yX12_deeper : MethodName := ⟨RX12, "deeper", "()V"⟩
abbrev cX12_operand : ByteArray := prog_14_method_31_code
def yX12_operand : MethodName := ⟨RX12, "operand", "(Z)V"⟩
abbrev cX12_isOpened : ByteArray := prog_14_method_32_code
def yX12_isOpened : MethodName := ⟨RX12, "isOpened", "()Z"⟩
abbrev cX12_closes : ByteArray := prog_14_method_33_code
def yX12_closes : MethodName := ⟨RX12, "closes", "()V"⟩
abbrev cX12_expression : ByteArray := prog_14_method_34_code
def yX12_expression : MethodName := ⟨RX12, "expression", "(II)V"⟩
abbrev cX12_begins : ByteArray := prog_14_method_35_code
def yX12_begins : MethodName := ⟨RX12, "begins", "(ZZ)Z"⟩
abbrev cX12_readsWall : ByteArray := prog_14_method_36_code
def yX12_readsWall : MethodName := ⟨RX12, "readsWall", "()V"⟩
abbrev cX12_readsFigure : ByteArray := prog_14_method_37_code
def yX12_readsFigure : MethodName := ⟨RX12, "readsFigure", "()V"⟩
abbrev cX12_readsSeat : ByteArray := prog_14_method_38_code
def yX12_readsSeat : MethodName := ⟨RX12, "readsSeat", "()V"⟩
abbrev cX12_readsLight : ByteArray := prog_14_method_39_code
def yX12_readsLight : MethodName := ⟨RX12, "readsLight", "()V"⟩
abbrev cX12_line : ByteArray := prog_14_method_40_code
def yX12_line : MethodName := ⟨RX12, "line", "()V"⟩
abbrev cX12_town : ByteArray := prog_14_method_41_code
def yX12_town : MethodName := ⟨RX12, "town", "(I)I"⟩
abbrev cX12_fault : ByteArray := prog_14_method_42_code
def yX12_fault : MethodName := ⟨RX12, "fault", "()I"⟩
abbrev cX12_keeps : ByteArray := prog_14_method_43_code
def yX12_keeps : MethodName := ⟨RX12, "keeps", "()V"⟩
abbrev cX12_refuses : ByteArray := prog_14_method_44_code
def yX12_refuses : MethodName := ⟨RX12, "refuses", "(I)I"⟩
abbrev cX12_undo : ByteArray := prog_14_method_45_code
def yX12_undo : MethodName := ⟨RX12, "undo", "()I"⟩
abbrev cX12_tries : ByteArray := prog_14_method_46_code
def yX12_tries : MethodName := ⟨RX12, "tries", "()V"⟩
abbrev cX12_works : ByteArray := prog_14_method_47_code
def yX12_works : MethodName := ⟨RX12, "works", "(III)I"⟩
abbrev cX12_reckons : ByteArray := prog_14_method_48_code
def yX12_reckons : MethodName := ⟨RX12, "reckons", "(I)I"⟩
abbrev cX12_lightAt : ByteArray := prog_14_method_49_code
def yX12_lightAt : MethodName := ⟨RX12, "lightAt", "(I)I"⟩
abbrev cX12_isDull : ByteArray := prog_14_method_50_code
def yX12_isDull : MethodName := ⟨RX12, "isDull", "(I)Z"⟩
abbrev cX12_atCell : ByteArray := prog_14_method_51_code
def yX12_atCell : MethodName := ⟨RX12, "atCell", "(II)I"⟩
abbrev cX12_withIt : ByteArray := prog_14_method_52_code
def yX12_withIt : MethodName := ⟨RX12, "withIt", "(II)I"⟩
abbrev cX12_stepOf : ByteArray := prog_14_method_53_code
def yX12_stepOf : MethodName := ⟨RX12, "stepOf", "(II)I"⟩
abbrev cX12_tells : ByteArray := prog_14_method_54_code
def yX12_tells : MethodName := ⟨RX12, "tells", "(II)V"⟩
abbrev cX12_hurtsBy : ByteArray := prog_14_method_55_code
def yX12_hurtsBy : MethodName := ⟨RX12, "hurtsBy", "(II)I"⟩
abbrev cX12_isGoing : ByteArray := prog_14_method_56_code
def yX12_isGoing : MethodName := ⟨RX12, "isGoing", "(II)Z"⟩
abbrev cX12_beside : ByteArray := prog_14_method_57_code
def yX12_beside : MethodName := ⟨RX12, "beside", "(II)I"⟩
abbrev cX12_figureGoes : ByteArray := prog_14_method_58_code
def yX12_figureGoes : MethodName := ⟨RX12, "figureGoes", "(II)V"⟩
abbrev cX12_hourGoes : ByteArray := prog_14_method_59_code
def yX12_hourGoes : MethodName := ⟨RX12, "hourGoes", "(I)V"⟩
abbrev cX12_hoursGo : ByteArray := prog_14_method_60_code
def yX12_hoursGo : MethodName := ⟨RX12, "hoursGo", "(I)V"⟩
abbrev cX12_sumOf : ByteArray := prog_14_method_61_code
def yX12_sumOf : MethodName := ⟨RX12, "sumOf", "(III)I"⟩
abbrev cX12_heldOnes : ByteArray := prog_14_method_62_code
def yX12_heldOnes : MethodName := ⟨RX12, "heldOnes", "()I"⟩
abbrev cX12_laysFar : ByteArray := prog_14_method_63_code
def yX12_laysFar : MethodName := ⟨RX12, "laysFar", "(I)V"⟩
abbrev cX12_parts : ByteArray := prog_14_method_64_code
def yX12_parts : MethodName := ⟨RX12, "parts", "()I"⟩
abbrev cX12_count : ByteArray := prog_14_method_65_code
def yX12_count : MethodName := ⟨RX12, "count", "(I)I"⟩
abbrev cX12_isFigure : ByteArray := prog_14_method_66_code
def yX12_isFigure : MethodName := ⟨RX12, "isFigure", "(I)Z"⟩
abbrev cX12_isCell : ByteArray := prog_14_method_67_code
def yX12_isCell : MethodName := ⟨RX12, "isCell", "(I)Z"⟩
abbrev cX12_isWhat : ByteArray := prog_14_method_68_code
def yX12_isWhat : MethodName := ⟨RX12, "isWhat", "(II)Z"⟩
abbrev cX12_isSoon : ByteArray := prog_14_method_69_code
def yX12_isSoon : MethodName := ⟨RX12, "isSoon", "(III)Z"⟩
abbrev cX12_figure : ByteArray := prog_14_method_70_code
def yX12_figure : MethodName := ⟨RX12, "figure", "(II)I"⟩
abbrev cX12_seenFrom : ByteArray := prog_14_method_71_code
def yX12_seenFrom : MethodName := ⟨RX12, "seenFrom", "(I)I"⟩
abbrev cX12_cell : ByteArray := prog_14_method_72_code
def yX12_cell : MethodName := ⟨RX12, "cell", "(II)I"⟩
abbrev cX12_hours : ByteArray := prog_14_method_73_code
def yX12_hours : MethodName := ⟨RX12, "hours", "(I)I"⟩
abbrev cX12_stop : ByteArray := prog_14_method_74_code
def yX12_stop : MethodName := ⟨RX12, "stop", "(II)I"⟩
abbrev cX12_lift : ByteArray := prog_14_method_75_code
def yX12_lift : MethodName := ⟨RX12, "lift", "(II)I"⟩
abbrev cX12_brush : ByteArray := prog_14_method_76_code
def yX12_brush : MethodName := ⟨RX12, "brush", "(I)I"⟩
abbrev cX12_wall : ByteArray := prog_14_method_77_code
def yX12_wall : MethodName := ⟨RX12, "wall", "(IZ)Z"⟩
abbrev cX12_goesTo : ByteArray := prog_14_method_78_code
def yX12_goesTo : MethodName := ⟨RX12, "goesTo", "(I)V"⟩
abbrev cX12_then : ByteArray := prog_14_method_79_code
def yX12_then : MethodName := ⟨RX12, "then", "(III)I"⟩
abbrev cX12_comes : ByteArray := prog_14_method_80_code
def yX12_comes : MethodName := ⟨RX12, "comes", "(II)I"⟩
abbrev cX12_meet : ByteArray := prog_14_method_81_code
def yX12_meet : MethodName := ⟨RX12, "meet", "(II)I"⟩
abbrev cX12_mostOften : ByteArray := prog_14_method_82_code
def yX12_mostOften : MethodName := ⟨RX12, "mostOften", "()I"⟩
abbrev cX12_clears : ByteArray := prog_14_method_83_code
def yX12_clears : MethodName := ⟨RX12, "clears", "()V"⟩
abbrev cX12_marks : ByteArray := prog_14_method_84_code
def yX12_marks : MethodName := ⟨RX12, "marks", "()V"⟩
abbrev cX12_crowd : ByteArray := prog_14_method_85_code
def yX12_crowd : MethodName := ⟨RX12, "crowd", "(II)I"⟩
abbrev cX12_areAsNow : ByteArray := prog_14_method_86_code
def yX12_areAsNow : MethodName := ⟨RX12, "areAsNow", "()Z"⟩
abbrev cX12_round : ByteArray := prog_14_method_87_code
def yX12_round : MethodName := ⟨RX12, "round", "()I"⟩
abbrev cX12_spread : ByteArray := prog_14_method_88_code
def yX12_spread : MethodName := ⟨RX12, "spread", "(II)I"⟩
abbrev cX12_later : ByteArray := prog_14_method_89_code
def yX12_later : MethodName := ⟨RX12, "later", "(II)I"⟩
abbrev cX12_together : ByteArray := prog_14_method_90_code
def yX12_together : MethodName := ⟨RX12, "together", "(III)I"⟩
abbrev cX12_quiet : ByteArray := prog_14_method_91_code
def yX12_quiet : MethodName := ⟨RX12, "quiet", "(II)I"⟩
abbrev cX12_gone : ByteArray := prog_14_method_92_code
def yX12_gone : MethodName := ⟨RX12, "gone", "(II)I"⟩
abbrev cX12_way : ByteArray := prog_14_method_93_code
def yX12_way : MethodName := ⟨RX12, "way", "(III)I"⟩
abbrev cX12_toStop : ByteArray := prog_14_method_94_code
def yX12_toStop : MethodName := ⟨RX12, "toStop", "(III)I"⟩
abbrev cX12_toThin : ByteArray := prog_14_method_95_code
def yX12_toThin : MethodName := ⟨RX12, "toThin", "(I)I"⟩
abbrev cX12_sits : ByteArray := prog_14_method_96_code
def yX12_sits : MethodName := ⟨RX12, "sits", "(III)I"⟩
abbrev cX12_canSit : ByteArray := prog_14_method_97_code
def yX12_canSit : MethodName := ⟨RX12, "canSit", "(III)Z"⟩
abbrev cX12_laysSeats : ByteArray := prog_14_method_98_code
def yX12_laysSeats : MethodName := ⟨RX12, "laysSeats", "()V"⟩
abbrev cX12_seats : ByteArray := prog_14_method_99_code
def yX12_seats : MethodName := ⟨RX12, "seats", "(I)I"⟩
abbrev cX12_seat : ByteArray := prog_14_method_100_code
def yX12_seat : MethodName := ⟨RX12, "seat", "(I)I"⟩
abbrev cX12_note : ByteArray := prog_14_method_101_code
def yX12_note : MethodName := ⟨RX12, "note", "(III)I"⟩
abbrev cX12_forget : ByteArray := prog_14_method_102_code
def yX12_forget : MethodName := ⟨RX12, "forget", "()V"⟩
abbrev cX12_isNoted : ByteArray := prog_14_method_103_code
def yX12_isNoted : MethodName := ⟨RX12, "isNoted", "()Z"⟩
abbrev cX12_isGuess : ByteArray := prog_14_method_104_code
def yX12_isGuess : MethodName := ⟨RX12, "isGuess", "(I)Z"⟩
abbrev cX12_ahead : ByteArray := prog_14_method_105_code
def yX12_ahead : MethodName := ⟨RX12, "ahead", "(I)I"⟩
abbrev cX12_look : ByteArray := prog_14_method_106_code
def yX12_look : MethodName := ⟨RX12, "look", "(I)I"⟩
abbrev cX12_clouds : ByteArray := prog_14_method_107_code
def yX12_clouds : MethodName := ⟨RX12, "clouds", "(IIII)I"⟩
abbrev cX12_gains : ByteArray := prog_14_method_108_code
def yX12_gains : MethodName := ⟨RX12, "gains", "(IIII)I"⟩
abbrev cX12_game : ByteArray := prog_14_method_109_code
def yX12_game : MethodName := ⟨RX12, "game", "(III)I"⟩
abbrev cX12_draw : ByteArray := prog_14_method_110_code
def yX12_draw : MethodName := ⟨RX12, "draw", "(I)I"⟩
abbrev cX12_happens : ByteArray := prog_14_method_111_code
def yX12_happens : MethodName := ⟨RX12, "happens", "()V"⟩
abbrev cX12_years : ByteArray := prog_14_method_112_code
def yX12_years : MethodName := ⟨RX12, "years", "(III)I"⟩
abbrev cX12_image : ByteArray := prog_14_method_113_code
def yX12_image : MethodName := ⟨RX12, "image", "()V"⟩
abbrev cX12_restore : ByteArray := prog_14_method_114_code
def yX12_restore : MethodName := ⟨RX12, "restore", "()Z"⟩
def RJx145de : String := "java/io/Serializable"
def TJx145de : u_T := fun k => match k with
  | _ => ("", "", "", false)
def tyJx145de : Nat → FieldType := fun k => match k with
  | _ => .int
abbrev wsJx145de0 : List Cond := u_ws RJx145de TJx145de 0
theorem nmJx145de : ∀ a, a < 0 → ∀ b, b < 0 → a ≠ b → (TJx145de a).2.1 ≠ (TJx145de b).2.1 := by decide +kernel
theorem tyJx145de_ok : ∀ k, k < 0 → parseFieldDescriptor (TJx145de k).2.2.1 = some (tyJx145de k) := by decide +kernel
def RJx9f9b0 : String := "java/lang/CharSequence"
def TJx9f9b0 : u_T := fun k => match k with
  | _ => ("", "", "", false)
def tyJx9f9b0 : Nat → FieldType := fun k => match k with
  | _ => .int
abbrev wsJx9f9b00 : List Cond := u_ws RJx9f9b0 TJx9f9b0 0
theorem nmJx9f9b0 : ∀ a, a < 0 → ∀ b, b < 0 → a ≠ b → (TJx9f9b0 a).2.1 ≠ (TJx9f9b0 b).2.1 := by decide +kernel
theorem tyJx9f9b0_ok : ∀ k, k < 0 → parseFieldDescriptor (TJx9f9b0 k).2.2.1 = some (tyJx9f9b0 k) := by decide +kernel
def RJ11 : String := "java/lang/Character"
def TJ11 : u_T := fun k => match k with
  | _ => ("", "", "", false)
def tyJ11 : Nat → FieldType := fun k => match k with
  | _ => .int
abbrev wsJ110 : List Cond := u_ws RJ11 TJ11 0
theorem nmJ11 : ∀ a, a < 0 → ∀ b, b < 0 → a ≠ b → (TJ11 a).2.1 ≠ (TJ11 b).2.1 := by decide +kernel
theorem tyJ11_ok : ∀ k, k < 0 → parseFieldDescriptor (TJ11 k).2.2.1 = some (tyJ11 k) := by decide +kernel
abbrev cJ11_isValidCodePoint_9a6ad : ByteArray := prog_17_method_11_code
def yJ11_isValidCodePoint_9a6ad : MethodName := ⟨RJ11, "isValidCodePoint", "(I)Z"⟩
abbrev cJ11_highSurrogate_5068e : ByteArray := prog_17_method_28_code
def yJ11_highSurrogate_5068e : MethodName := ⟨RJ11, "highSurrogate", "(I)C"⟩
abbrev cJ11_lowSurrogate_5068e : ByteArray := prog_17_method_29_code
def yJ11_lowSurrogate_5068e : MethodName := ⟨RJ11, "lowSurrogate", "(I)C"⟩
def RJxb160c : String := "java/lang/Comparable"
def TJxb160c : u_T := fun k => match k with
  | _ => ("", "", "", false)
def tyJxb160c : Nat → FieldType := fun k => match k with
  | _ => .int
abbrev wsJxb160c0 : List Cond := u_ws RJxb160c TJxb160c 0
theorem nmJxb160c : ∀ a, a < 0 → ∀ b, b < 0 → a ≠ b → (TJxb160c a).2.1 ≠ (TJxb160c b).2.1 := by decide +kernel
theorem tyJxb160c_ok : ∀ k, k < 0 → parseFieldDescriptor (TJxb160c k).2.2.1 = some (tyJxb160c k) := by decide +kernel
def RJ6 : String := "java/lang/Integer"
def TJ6 : u_T := fun k => match k with
  | _ => ("", "", "", false)
def tyJ6 : Nat → FieldType := fun k => match k with
  | _ => .int
abbrev wsJ60 : List Cond := u_ws RJ6 TJ6 0
theorem nmJ6 : ∀ a, a < 0 → ∀ b, b < 0 → a ≠ b → (TJ6 a).2.1 ≠ (TJ6 b).2.1 := by decide +kernel
theorem tyJ6_ok : ∀ k, k < 0 → parseFieldDescriptor (TJ6 k).2.2.1 = some (tyJ6 k) := by decide +kernel
abbrev cJ6_bitCount_0f7a4 : ByteArray := prog_21_method_49_code
def yJ6_bitCount_0f7a4 : MethodName := ⟨RJ6, "bitCount", "(I)I"⟩
def RJ13 : String := "java/lang/Long"
def TJ13 : u_T := fun k => match k with
  | _ => ("", "", "", false)
def tyJ13 : Nat → FieldType := fun k => match k with
  | _ => .int
abbrev wsJ130 : List Cond := u_ws RJ13 TJ13 0
theorem nmJ13 : ∀ a, a < 0 → ∀ b, b < 0 → a ≠ b → (TJ13 a).2.1 ≠ (TJ13 b).2.1 := by decide +kernel
theorem tyJ13_ok : ∀ k, k < 0 → parseFieldDescriptor (TJ13 k).2.2.1 = some (tyJ13 k) := by decide +kernel
abbrev cJ13_bitCount_95d88 : ByteArray := prog_22_method_50_code
def yJ13_bitCount_95d88 : MethodName := ⟨RJ13, "bitCount", "(J)I"⟩
def RJ9 : String := "java/lang/Math"
def TJ9 : u_T := fun k => match k with
  | _ => ("", "", "", false)
def tyJ9 : Nat → FieldType := fun k => match k with
  | _ => .int
abbrev wsJ90 : List Cond := u_ws RJ9 TJ9 0
theorem nmJ9 : ∀ a, a < 0 → ∀ b, b < 0 → a ≠ b → (TJ9 a).2.1 ≠ (TJ9 b).2.1 := by decide +kernel
theorem tyJ9_ok : ∀ k, k < 0 → parseFieldDescriptor (TJ9 k).2.2.1 = some (tyJ9 k) := by decide +kernel
abbrev cJ9_max_7cf53 : ByteArray := prog_23_method_65_code
def yJ9_max_7cf53 : MethodName := ⟨RJ9, "max", "(II)I"⟩
abbrev cJ9_min_7cf53 : ByteArray := prog_23_method_69_code
def yJ9_min_7cf53 : MethodName := ⟨RJ9, "min", "(II)I"⟩
def RJ0 : String := "java/lang/String"
def TJ0 : u_T := fun k => match k with
  | _ => ("", "", "", false)
def tyJ0 : Nat → FieldType := fun k => match k with
  | _ => .int
abbrev wsJ00 : List Cond := u_ws RJ0 TJ0 0
theorem nmJ0 : ∀ a, a < 0 → ∀ b, b < 0 → a ≠ b → (TJ0 a).2.1 ≠ (TJ0 b).2.1 := by decide +kernel
theorem tyJ0_ok : ∀ k, k < 0 → parseFieldDescriptor (TJ0 k).2.2.1 = some (tyJ0 k) := by decide +kernel
abbrev cJ0_length_8abf5 : ByteArray := prog_25_method_54_code
def yJ0_length_8abf5 : MethodName := ⟨RJ0, "length", "()I"⟩
abbrev cJ0_charAt_5068e : ByteArray := prog_25_method_56_code
def yJ0_charAt_5068e : MethodName := ⟨RJ0, "charAt", "(I)C"⟩
abbrev cJ0_indexOf_0f7a4 : ByteArray := prog_25_method_79_code
def yJ0_indexOf_0f7a4 : MethodName := ⟨RJ0, "indexOf", "(I)I"⟩
abbrev cJ0_indexOf_7cf53 : ByteArray := prog_25_method_80_code
def yJ0_indexOf_7cf53 : MethodName := ⟨RJ0, "indexOf", "(II)I"⟩
abbrev cJ0_coder_7d493 : ByteArray := prog_25_method_152_code
def yJ0_coder_7d493 : MethodName := ⟨RJ0, "coder", "()B"⟩
abbrev cJ0_isLatin1_aae02 : ByteArray := prog_25_method_154_code
def yJ0_isLatin1_aae02 : MethodName := ⟨RJ0, "isLatin1", "()Z"⟩
abbrev cJ0_checkIndex_df160 : ByteArray := prog_25_method_155_code
def yJ0_checkIndex_df160 : MethodName := ⟨RJ0, "checkIndex", "(II)V"⟩
abbrev cJ0_checkBoundsBeginEnd_23922 : ByteArray := prog_25_method_158_code
def yJ0_checkBoundsBeginEnd_23922 : MethodName := ⟨RJ0, "checkBoundsBeginEnd", "(III)V"⟩
def RJ1 : String := "java/lang/StringLatin1"
def TJ1 : u_T := fun k => match k with
  | _ => ("", "", "", false)
def tyJ1 : Nat → FieldType := fun k => match k with
  | _ => .int
abbrev wsJ10 : List Cond := u_ws RJ1 TJ1 0
theorem nmJ1 : ∀ a, a < 0 → ∀ b, b < 0 → a ≠ b → (TJ1 a).2.1 ≠ (TJ1 b).2.1 := by decide +kernel
theorem tyJ1_ok : ∀ k, k < 0 → parseFieldDescriptor (TJ1 k).2.2.1 = some (tyJ1 k) := by decide +kernel
abbrev cJ1_charAt_3b067 : ByteArray := prog_26_method_2_code
def yJ1_charAt_3b067 : MethodName := ⟨RJ1, "charAt", "([BI)C"⟩
abbrev cJ1_canEncode_9a6ad : ByteArray := prog_26_method_4_code
def yJ1_canEncode_9a6ad : MethodName := ⟨RJ1, "canEncode", "(I)Z"⟩
abbrev cJ1_indexOf_4cfef : ByteArray := prog_26_method_22_code
def yJ1_indexOf_4cfef : MethodName := ⟨RJ1, "indexOf", "([BIII)I"⟩
abbrev cJ1_indexOfChar_4cfef : ByteArray := prog_26_method_23_code
def yJ1_indexOfChar_4cfef : MethodName := ⟨RJ1, "indexOfChar", "([BIII)I"⟩
def RJ2 : String := "java/lang/StringUTF16"
def TJ2 : u_T := fun k => match k with
  | _ => ("", "", "", false)
def tyJ2 : Nat → FieldType := fun k => match k with
  | _ => .int
abbrev wsJ20 : List Cond := u_ws RJ2 TJ2 0
theorem nmJ2 : ∀ a, a < 0 → ∀ b, b < 0 → a ≠ b → (TJ2 a).2.1 ≠ (TJ2 b).2.1 := by decide +kernel
theorem tyJ2_ok : ∀ k, k < 0 → parseFieldDescriptor (TJ2 k).2.2.1 = some (tyJ2 k) := by decide +kernel
abbrev cJ2_getChar_3b067 : ByteArray := prog_27_method_5_code
def yJ2_getChar_3b067 : MethodName := ⟨RJ2, "getChar", "([BI)C"⟩
abbrev cJ2_length_9d52b : ByteArray := prog_27_method_6_code
def yJ2_length_9d52b : MethodName := ⟨RJ2, "length", "([B)I"⟩
abbrev cJ2_indexOf_4cfef : ByteArray := prog_27_method_40_code
def yJ2_indexOf_4cfef : MethodName := ⟨RJ2, "indexOf", "([BIII)I"⟩
abbrev cJ2_indexOfChar_4cfef : ByteArray := prog_27_method_47_code
def yJ2_indexOfChar_4cfef : MethodName := ⟨RJ2, "indexOfChar", "([BIII)I"⟩
abbrev cJ2_indexOfCharUnsafe_4cfef : ByteArray := prog_27_method_48_code
def yJ2_indexOfCharUnsafe_4cfef : MethodName := ⟨RJ2, "indexOfCharUnsafe", "([BIII)I"⟩
abbrev cJ2_indexOfSupplementary_4cfef : ByteArray := prog_27_method_49_code
def yJ2_indexOfSupplementary_4cfef : MethodName := ⟨RJ2, "indexOfSupplementary", "([BIII)I"⟩
abbrev cJ2_charAt_3b067 : ByteArray := prog_27_method_83_code
def yJ2_charAt_3b067 : MethodName := ⟨RJ2, "charAt", "([BI)C"⟩
abbrev cJ2_checkIndex_2214a : ByteArray := prog_27_method_91_code
def yJ2_checkIndex_2214a : MethodName := ⟨RJ2, "checkIndex", "(I[B)V"⟩
abbrev cJ2_checkBoundsBeginEnd_d044e : ByteArray := prog_27_method_93_code
def yJ2_checkBoundsBeginEnd_d044e : MethodName := ⟨RJ2, "checkBoundsBeginEnd", "(II[B)V"⟩
def RJ10 : String := "java/lang/System"
def TJ10 : u_T := fun k => match k with
  | _ => ("", "", "", false)
def tyJ10 : Nat → FieldType := fun k => match k with
  | _ => .int
abbrev wsJ100 : List Cond := u_ws RJ10 TJ10 0
theorem nmJ10 : ∀ a, a < 0 → ∀ b, b < 0 → a ≠ b → (TJ10 a).2.1 ≠ (TJ10 b).2.1 := by decide +kernel
theorem tyJ10_ok : ∀ k, k < 0 → parseFieldDescriptor (TJ10 k).2.2.1 = some (tyJ10 k) := by decide +kernel
def RJxfd54e : String := "java/lang/constant/Constable"
def TJxfd54e : u_T := fun k => match k with
  | _ => ("", "", "", false)
def tyJxfd54e : Nat → FieldType := fun k => match k with
  | _ => .int
abbrev wsJxfd54e0 : List Cond := u_ws RJxfd54e TJxfd54e 0
theorem nmJxfd54e : ∀ a, a < 0 → ∀ b, b < 0 → a ≠ b → (TJxfd54e a).2.1 ≠ (TJxfd54e b).2.1 := by decide +kernel
theorem tyJxfd54e_ok : ∀ k, k < 0 → parseFieldDescriptor (TJxfd54e k).2.2.1 = some (tyJxfd54e k) := by decide +kernel
def RJx3cf43 : String := "java/lang/constant/ConstantDesc"
def TJx3cf43 : u_T := fun k => match k with
  | _ => ("", "", "", false)
def tyJx3cf43 : Nat → FieldType := fun k => match k with
  | _ => .int
abbrev wsJx3cf430 : List Cond := u_ws RJx3cf43 TJx3cf43 0
theorem nmJx3cf43 : ∀ a, a < 0 → ∀ b, b < 0 → a ≠ b → (TJx3cf43 a).2.1 ≠ (TJx3cf43 b).2.1 := by decide +kernel
theorem tyJx3cf43_ok : ∀ k, k < 0 → parseFieldDescriptor (TJx3cf43 k).2.2.1 = some (tyJx3cf43 k) := by decide +kernel
def RJ7 : String := "java/util/Arrays"
def TJ7 : u_T := fun k => match k with
  | _ => ("", "", "", false)
def tyJ7 : Nat → FieldType := fun k => match k with
  | _ => .int
abbrev wsJ70 : List Cond := u_ws RJ7 TJ7 0
theorem nmJ7 : ∀ a, a < 0 → ∀ b, b < 0 → a ≠ b → (TJ7 a).2.1 ≠ (TJ7 b).2.1 := by decide +kernel
theorem tyJ7_ok : ∀ k, k < 0 → parseFieldDescriptor (TJ7 k).2.2.1 = some (tyJ7 k) := by decide +kernel
abbrev cJ7_fill_d0a16 : ByteArray := prog_32_method_101_code
def yJ7_fill_d0a16 : MethodName := ⟨RJ7, "fill", "([JJ)V"⟩
abbrev cJ7_fill_53178 : ByteArray := prog_32_method_103_code
def yJ7_fill_53178 : MethodName := ⟨RJ7, "fill", "([II)V"⟩
def RJ3 : String := "jdk/internal/util/Preconditions"
def TJ3 : u_T := fun k => match k with
  | _ => ("", "", "", false)
def tyJ3 : Nat → FieldType := fun k => match k with
  | _ => .int
abbrev wsJ30 : List Cond := u_ws RJ3 TJ3 0
theorem nmJ3 : ∀ a, a < 0 → ∀ b, b < 0 → a ≠ b → (TJ3 a).2.1 ≠ (TJ3 b).2.1 := by decide +kernel
theorem tyJ3_ok : ∀ k, k < 0 → parseFieldDescriptor (TJ3 k).2.2.1 = some (tyJ3 k) := by decide +kernel
abbrev cJ3_checkIndex_8e157 : ByteArray := prog_34_method_11_code
def yJ3_checkIndex_8e157 : MethodName := ⟨RJ3, "checkIndex", "(IILjava/util/function/BiFunction;)I"⟩
abbrev cJ3_checkFromToIndex_8c36e : ByteArray := prog_34_method_12_code
def yJ3_checkFromToIndex_8c36e : MethodName := ⟨RJ3, "checkFromToIndex", "(IIILjava/util/function/BiFunction;)I"⟩
def RL : String := "TownTableLaw"
abbrev cL_town : ByteArray := method_3_code
def yL_town : MethodName := ⟨RL, "town", "(LTownTable;I[J)I"⟩
abbrev cL_count : ByteArray := method_4_code
def yL_count : MethodName := ⟨RL, "count", "(LTownTable;I[J)I"⟩
abbrev cL_figure : ByteArray := method_5_code
def yL_figure : MethodName := ⟨RL, "figure", "(LTownTable;II[J)I"⟩
abbrev cL_cell : ByteArray := method_6_code
def yL_cell : MethodName := ⟨RL, "cell", "(LTownTable;II[J)I"⟩
abbrev cL_stop : ByteArray := method_7_code
def yL_stop : MethodName := ⟨RL, "stop", "(LTownTable;II[J)I"⟩
abbrev cL_lift : ByteArray := method_8_code
def yL_lift : MethodName := ⟨RL, "lift", "(LTownTable;II[J)I"⟩
abbrev cL_brush : ByteArray := method_9_code
def yL_brush : MethodName := ⟨RL, "brush", "(LTownTable;I[J)I"⟩
abbrev cL_wall : ByteArray := method_10_code
def yL_wall : MethodName := ⟨RL, "wall", "(LTownTable;IZ[J)I"⟩
abbrev cL_then : ByteArray := method_11_code
def yL_then : MethodName := ⟨RL, "then", "(LTownTable;III[J)I"⟩
abbrev cL_comes : ByteArray := method_12_code
def yL_comes : MethodName := ⟨RL, "comes", "(LTownTable;II[J)I"⟩
abbrev cL_meet : ByteArray := method_13_code
def yL_meet : MethodName := ⟨RL, "meet", "(LTownTable;II[J)I"⟩
abbrev cL_crowd : ByteArray := method_14_code
def yL_crowd : MethodName := ⟨RL, "crowd", "(LTownTable;II[J)I"⟩
abbrev cL_spread : ByteArray := method_15_code
def yL_spread : MethodName := ⟨RL, "spread", "(LTownTable;II[J)I"⟩
abbrev cL_way : ByteArray := method_16_code
def yL_way : MethodName := ⟨RL, "way", "(LTownTable;III[J)I"⟩
abbrev cL_toStop : ByteArray := method_17_code
def yL_toStop : MethodName := ⟨RL, "toStop", "(LTownTable;III[J)I"⟩
abbrev cL_toThin : ByteArray := method_18_code
def yL_toThin : MethodName := ⟨RL, "toThin", "(LTownTable;I[J)I"⟩
abbrev cL_seats : ByteArray := method_19_code
def yL_seats : MethodName := ⟨RL, "seats", "(LTownTable;I[J)I"⟩
abbrev cL_seat : ByteArray := method_20_code
def yL_seat : MethodName := ⟨RL, "seat", "(LTownTable;I[J)I"⟩
abbrev cL_note : ByteArray := method_21_code
def yL_note : MethodName := ⟨RL, "note", "(LTownTable;III[J)I"⟩
abbrev cL_ahead : ByteArray := method_22_code
def yL_ahead : MethodName := ⟨RL, "ahead", "(LTownTable;I[J)I"⟩
abbrev cL_look : ByteArray := method_23_code
def yL_look : MethodName := ⟨RL, "look", "(LTownTable;I[J)I"⟩
abbrev cL_clouds : ByteArray := method_24_code
def yL_clouds : MethodName := ⟨RL, "clouds", "(LTownTable;IIII[J)I"⟩
abbrev cL_game : ByteArray := method_25_code
def yL_game : MethodName := ⟨RL, "game", "(LTownTable;III[J)I"⟩
abbrev cL_years : ByteArray := method_26_code
def yL_years : MethodName := ⟨RL, "years", "(LTownTable;III[J)I"⟩
abbrev cL_later : ByteArray := method_27_code
def yL_later : MethodName := ⟨RL, "later", "(LTownTable;II[J)I"⟩
abbrev cL_together : ByteArray := method_28_code
def yL_together : MethodName := ⟨RL, "together", "(LTownTable;III[J)I"⟩
abbrev cL_quiet : ByteArray := method_29_code
def yL_quiet : MethodName := ⟨RL, "quiet", "(LTownTable;II[J)I"⟩
abbrev cL_gone : ByteArray := method_30_code
def yL_gone : MethodName := ⟨RL, "gone", "(LTownTable;II[J)I"⟩
abbrev cL_law : ByteArray := code
def yL_law : MethodName := ⟨RL, "law", "([I)Z"⟩
abbrev vwCl : List vw_C := [(RX0, TX0, 7), (RX1, TX1, 4), (RX2, TX2, 1), (RX3, TX3, 15), (RX4, TX4, 2), (RX5, TX5, 3), (RX6, TX6, 6), (RX7, TX7, 5), (RX8, TX8, 8), (RX9, TX9, 7), (RX10, TX10, 2), (RX11, TX11, 20), (RX12, TX12, 71)]
end
section
/-! THE PURE MACHINE: cells by numbers from 0 on (a cell of the heap: its number above the base n0), frames of locals and stack, one step of a method's code as a predicate transformer; what it says is carried over to the machine by ONE theorem (part 06). -/
abbrev pE : Type := (Nat × Nat × ((Nat → Int32) ⊕ (Nat → Int64))) ⊕ (Nat × List Value)
abbrev pS : Type := Nat × (Nat → pE)
abbrev pL : Type := List (Option Value)
abbrev pR : Type := Option Value ⊕ String
abbrev pQ : Type := pR → pS → Prop
abbrev pF : Type := Nat → pL → List Value → Nat → Nat → pS → Prop
abbrev pCall : Type := Nat → List Value → pS → pQ → Prop
/-- a value as the machine has it; a return address stands for a text constant -/
def pm_v (n0 : Nat) (sa : Nat → Nat) : Value → Value
  | .ref a => .ref (n0 + a)
  | .retAddr k => .ref (sa k)
  | v => v
def pm_e (n0 : Nat) (sa : Nat → Nat) (ck : Nat → ClassId) : pE → va_E
  | .inl (k, n, .inl f) => .inl (ck k, n, .inl f)
  | .inl (k, n, .inr f) => .inl (ck k, n, .inr (.inl f))
  | .inr (c, fs) => .inr (c, fs.map (pm_v n0 sa))
def pm_w (n0 : Nat) (sa : Nat → Nat) (ck : Nat → ClassId) (S : pS) : va_W := (List.range S.1).map (fun i => (n0 + i, pm_e n0 sa ck (S.2 i)))
/-- a method's own tables: code (with a branch's target), fields by pool number (class, place), methods by pool number (kind, number, how many arguments, class), constants, classes to be made (number, fields at first), texts thrown with (by the place of the new: the class), the answer's type, whether it is a constructor -/
abbrev pC : Type := (Nat → Option (Instr × Nat)) × (Nat → Option (Nat × Nat)) × (Nat → Option (Nat × Nat × Nat × Nat)) × (Nat → Option Value) × (Nat → Option (Nat × List Value)) × (Nat → Option String) × Option FieldType × Bool
abbrev pc_in (C : pC) : Nat → Option (Instr × Nat) := C.1
abbrev pc_fl (C : pC) : Nat → Option (Nat × Nat) := C.2.1
abbrev pc_ml (C : pC) : Nat → Option (Nat × Nat × Nat × Nat) := C.2.2.1
abbrev pc_kc (C : pC) : Nat → Option Value := C.2.2.2.1
abbrev pc_nw (C : pC) : Nat → Option (Nat × List Value) := C.2.2.2.2.1
abbrev pc_th (C : pC) : Nat → Option String := C.2.2.2.2.2.1
abbrev pc_rt (C : pC) : Option FieldType := C.2.2.2.2.2.2.1
abbrev pc_ini (C : pC) : Bool := C.2.2.2.2.2.2.2
def pm_o {α : Type} (o : Option α) (f : α → Prop) : Prop := match o with
  | some x => f x
  | none => False
def pm_get (ls : pL) (i : Nat) : Option Value := (ls[i]?).join
def pm_clr (ls : pL) (i : Nat) : pL := match i with
  | 0 => ls
  | j + 1 => match pm_get ls j with
    | some w => if w.category = 2 then ls.set j none else ls
    | none => ls
def pm_set (ls : pL) (i : Nat) (v : Value) : pL := if v.category = 2 then (((pm_clr ls i).set i (some v)).set (i + 1) none) else ((pm_clr ls i).set i (some v))
def pm_gi (ls : pL) (i : Nat) (f : Int32 → Prop) : Prop := match pm_get ls i with
  | some (.int x) => f x
  | _ => False
def pm_gl (ls : pL) (i : Nat) (f : Int64 → Prop) : Prop := match pm_get ls i with
  | some (.long x) => f x
  | _ => False
/-- a cell, or a text -/
def pm_isr (v : Value) : Bool := match v with
  | .ref _ => true
  | .retAddr _ => true
  | _ => false
def pm_ga (ls : pL) (i : Nat) (f : Value → Prop) : Prop := match pm_get ls i with
  | some v => pm_isr v = true ∧ f v
  | none => False
def pm_i (st : List Value) (f : Int32 → List Value → Prop) : Prop := match st with
  | .int x :: r => f x r
  | _ => False
def pm_l (st : List Value) (f : Int64 → List Value → Prop) : Prop := match st with
  | .long x :: r => f x r
  | _ => False
def pm_ii (st : List Value) (f : Int32 → Int32 → List Value → Prop) : Prop := match st with
  | .int y :: .int x :: r => f x y r
  | _ => False
def pm_ll (st : List Value) (f : Int64 → Int64 → List Value → Prop) : Prop := match st with
  | .long y :: .long x :: r => f x y r
  | _ => False
def pm_li (st : List Value) (f : Int64 → Int32 → List Value → Prop) : Prop := match st with
  | .int y :: .long x :: r => f x y r
  | _ => False
def pm_a (st : List Value) (f : Value → List Value → Prop) : Prop := match st with
  | v :: r => pm_isr v = true ∧ f v r
  | _ => False
def pm_r (st : List Value) (f : Nat → List Value → Prop) : Prop := match st with
  | .ref a :: r => f a r
  | _ => False
def pm_vr (st : List Value) (f : Value → Nat → List Value → Prop) : Prop := match st with
  | v :: .ref a :: r => f v a r
  | _ => False
def pm_ir (st : List Value) (f : Int32 → Nat → List Value → Prop) : Prop := match st with
  | .int i :: .ref a :: r => f i a r
  | _ => False
def pm_iir (st : List Value) (f : Int32 → Int32 → Nat → List Value → Prop) : Prop := match st with
  | .int x :: .int i :: .ref a :: r => f x i a r
  | _ => False
def pm_lir (st : List Value) (f : Int64 → Int32 → Nat → List Value → Prop) : Prop := match st with
  | .long x :: .int i :: .ref a :: r => f x i a r
  | _ => False
/-- an object of a class: its fields -/
def pm_ob (S : pS) (a ci : Nat) (f : List Value → Prop) : Prop := a < S.1 ∧ (match S.2 a with
  | .inr (c, fs) => c = ci ∧ f fs
  | .inl _ => False)
/-- an array of ints (of chars, of booleans), by its kind -/
def pm_ar (S : pS) (a kd : Nat) (f : Nat → (Nat → Int32) → Prop) : Prop := a < S.1 ∧ (match S.2 a with
  | .inl (k, n, .inl g) => k = kd ∧ f n g
  | _ => False)
def pm_aj (S : pS) (a : Nat) (f : Nat → (Nat → Int64) → Prop) : Prop := a < S.1 ∧ (match S.2 a with
  | .inl (k, n, .inr g) => k = 1 ∧ f n g
  | _ => False)
def pm_an (S : pS) (a : Nat) (f : Nat → Prop) : Prop := a < S.1 ∧ (match S.2 a with
  | .inl (k, n, .inl _) => k < 4 ∧ k ≠ 1 ∧ f n
  | .inl (k, n, .inr _) => k = 1 ∧ f n
  | .inr _ => False)
def pm_up (S : pS) (a : Nat) (e : pE) : pS := (S.1, va_up S.2 a e)
def pm_fit (ty : FieldType) (v : Value) : Bool := match ty, v with
  | .int, .int _ => true
  | .long, .long _ => true
  | .boolean, .int x => x == 0 || x == 1
  | .object _, .ref _ => true
  | .array _, .ref _ => true
  | _, _ => false
/-- a field's type, whether it is final -/
def pm_ft (ci k : Nat) : Option (FieldType × Bool) := match vwCl[ci]? with
  | some (_, T, N) => if k < N then (parseFieldDescriptor (T k).2.2.1).map (fun t => (t, (T k).2.2.2)) else none
  | none => none
def pm_sw (x lo hi : Int) (pc : Nat) (d : Int) (os : Array Int) (f : Nat → Prop) : Prop := if x < lo ∨ hi < x then 0 ≤ (pc : Int) + d ∧ f ((pc : Int) + d).toNat else pm_o (os[(x - lo).toNat]?) (fun o => 0 ≤ (pc : Int) + o ∧ f ((pc : Int) + o).toNat)
/-- a branch, by what the machine's own rows ask -/
def pm_cd (c : Jvm.ClassFile.Cond) (x y : Int32) (t f : Prop) : Prop := match c with
  | .eq => (x = y → t) ∧ (¬ x = y → f)
  | .ne => (¬ x = y → t) ∧ (x = y → f)
  | .lt => (x < y → t) ∧ (¬ x < y → f)
  | .ge => (y ≤ x → t) ∧ (¬ y ≤ x → f)
  | .gt => (y < x → t) ∧ (¬ y < x → f)
  | .le => (x ≤ y → t) ∧ (¬ x ≤ y → f)
def pm_ix (i : Int32) (n : Nat) (f : Prop) : Prop := ¬ (i < 0 ∨ n ≤ i.toNatClampNeg) ∧ f
def pm_ar1 (st : List Value) (n : Nat) (f : List Value → List Value → Prop) : Prop := n ≤ st.length ∧ f (st.take n).reverse (st.drop n)
/-- what a callee uses up where it returns: one that makes cells for good its whole budget, any other one nothing -/
def pm_nu (al : Bool) (u x : Nat) : Nat := match al with
  | true => u + x
  | false => u
def pm_po (cost : Nat → Nat × Nat × Bool) (Q : pQ) (k : pF) (pc : Nat) (ls : pL) (j : Nat) (r : List Value) (uc us : Nat) : pQ := fun o S1 => match o with
  | .inl v => k (pc + 3) ls (v.toList ++ r) (pm_nu (cost j).2.2 uc (cost j).1) (pm_nu (cost j).2.2 us (cost j).2.1) S1
  | .inr E => Q (.inr E) S1
/-- a call, the budget of cells and slots that the callee may use up, what comes behind it -/
def pm_inv (call : pCall) (cost : Nat → Nat × Nat × Bool) (al : Bool) (nxe mc ms : Nat) (Q : pQ) (k : pF) (pc : Nat) (ls : pL) (j : Nat) (as r : List Value) (uc us : Nat) (S : pS) : Prop :=
  r.length ≤ 4 ∧ uc + (cost j).1 ≤ mc ∧ us + (cost j).2.1 ≤ ms ∧ ((cost j).2.2 = true → al = true ∧ S.1 = nxe + uc) ∧ call j as S (pm_po cost Q k pc ls j r uc us)
def pm_akd : ClassFile.ArrayType → Option Nat
  | .int => some 0
  | .long => some 1
  | .char => some 2
  | .boolean => some 3
  | _ => none
def pm_na (kd N : Nat) : pE := if kd = 1 then .inl (1, N, .inr (fun _ => 0)) else .inl (kd, N, .inl (fun _ => 0))
def pm_dup (st : List Value) (f : Value → List Value → Prop) : Prop := match st with
  | v :: r => v.category = 1 ∧ f v r
  | [] => False
def pm_dup2 (st : List Value) (f : Value → Value → List Value → Prop) : Prop := match st with
  | v :: w :: r => v.category = 1 ∧ w.category = 1 ∧ f v w r
  | _ => False
def pm_kl (o : Option Value) (f : Int64 → Prop) : Prop := match o with
  | some (.long x) => f x
  | _ => False
def pm_ki (o : Option Value) (f : Value → Prop) : Prop := match o with
  | some (.int x) => f (.int x)
  | some (.retAddr x) => f (.retAddr x)
  | _ => False
def pm_t (st : List Value) (f : Nat → List Value → Prop) : Prop := match st with
  | .retAddr a :: r => f a r
  | _ => False
/-- System.arraycopy of ints -/
def pm_cpy (S : pS) (st : List Value) (f : Nat → pE → List Value → Prop) : Prop := match st with
  | .int n :: .int dp :: .ref b :: .int sp :: .ref a :: r => pm_ar S a 0 (fun n0 g => pm_ar S b 0 (fun n1 h => ¬ sp < 0 ∧ ¬ dp < 0 ∧ ¬ n < 0 ∧ sp.toNatClampNeg + n.toNatClampNeg ≤ n0 ∧ dp.toNatClampNeg + n.toNatClampNeg ≤ n1 ∧ f b (.inl (0, n1, .inl (va_cpy g h sp.toNatClampNeg dp.toNatClampNeg n.toNatClampNeg))) r))
  | _ => False
def pm_step (C : pC) (d : Nat) (call : pCall) (cost : Nat → Nat × Nat × Bool) (al : Bool) (nxe mc ms : Nat) (Q : pQ) (k : pF) : pF := fun pc ls st uc us S =>
  match pc_in C pc with
  | none => False
  | some (ins, tg) => match ins with
    | .iconst n => k (pc + 1) ls (.int (Int32.ofInt n) :: st) uc us S
    | .bipush n => k (pc + 2) ls (.int (Int8.ofInt n).toInt32 :: st) uc us S
    | .sipush n => k (pc + 3) ls (.int (Int16.ofInt n).toInt32 :: st) uc us S
    | .lconst n => k (pc + 1) ls (.long (Int64.ofNat (n : Nat)) :: st) uc us S
    | .ldc i => pm_ki (pc_kc C i) (fun v => k (pc + 2) ls (v :: st) uc us S)
    | .ldc_w i => pm_ki (pc_kc C i) (fun v => k (pc + 3) ls (v :: st) uc us S)
    | .ldc2_w i => pm_kl (pc_kc C i) (fun x => k (pc + 3) ls (.long x :: st) uc us S)
    | .iload i => pm_gi ls i (fun x => k (pc + 2) ls (.int x :: st) uc us S)
    | .iload_n i => pm_gi ls i (fun x => k (pc + 1) ls (.int x :: st) uc us S)
    | .lload i => pm_gl ls i (fun x => k (pc + 2) ls (.long x :: st) uc us S)
    | .lload_n i => pm_gl ls i (fun x => k (pc + 1) ls (.long x :: st) uc us S)
    | .aload i => pm_ga ls i (fun v => k (pc + 2) ls (v :: st) uc us S)
    | .aload_n i => pm_ga ls i (fun v => k (pc + 1) ls (v :: st) uc us S)
    | .istore i => pm_i st (fun x r => i < ls.length ∧ k (pc + 2) (pm_set ls i (.int x)) r uc us S)
    | .istore_n i => pm_i st (fun x r => (i : Nat) < ls.length ∧ k (pc + 1) (pm_set ls i (.int x)) r uc us S)
    | .lstore i => pm_l st (fun x r => i + 1 < ls.length ∧ k (pc + 2) (pm_set ls i (.long x)) r uc us S)
    | .lstore_n i => pm_l st (fun x r => (i : Nat) + 1 < ls.length ∧ k (pc + 1) (pm_set ls i (.long x)) r uc us S)
    | .astore i => pm_a st (fun v r => i < ls.length ∧ k (pc + 2) (pm_set ls i v) r uc us S)
    | .astore_n i => pm_a st (fun v r => (i : Nat) < ls.length ∧ k (pc + 1) (pm_set ls i v) r uc us S)
    | .iinc i n => pm_gi ls i (fun x => i < ls.length ∧ k (pc + 3) (pm_set ls i (.int (x + Int32.ofInt n))) st uc us S)
    | .iadd => pm_ii st (fun x y r => k (pc + 1) ls (.int (x + y) :: r) uc us S)
    | .isub => pm_ii st (fun x y r => k (pc + 1) ls (.int (x - y) :: r) uc us S)
    | .imul => pm_ii st (fun x y r => k (pc + 1) ls (.int (x * y) :: r) uc us S)
    | .idiv => pm_ii st (fun x y r => ¬ y = 0 ∧ k (pc + 1) ls (.int (x / y) :: r) uc us S)
    | .irem => pm_ii st (fun x y r => ¬ y = 0 ∧ k (pc + 1) ls (.int (x - x / y * y) :: r) uc us S)
    | .iand => pm_ii st (fun x y r => k (pc + 1) ls (.int (x &&& y) :: r) uc us S)
    | .ior => pm_ii st (fun x y r => k (pc + 1) ls (.int (x ||| y) :: r) uc us S)
    | .ixor => pm_ii st (fun x y r => k (pc + 1) ls (.int (x ^^^ y) :: r) uc us S)
    | .ishl => pm_ii st (fun x y r => k (pc + 1) ls (.int (x <<< (y &&& 31)) :: r) uc us S)
    | .ishr => pm_ii st (fun x y r => k (pc + 1) ls (.int (x >>> (y &&& 31)) :: r) uc us S)
    | .iushr => pm_ii st (fun x y r => k (pc + 1) ls (.int (x.toUInt32 >>> (y.toUInt32 &&& Int32.toUInt32 31)).toInt32 :: r) uc us S)
    | .ladd => pm_ll st (fun x y r => k (pc + 1) ls (.long (x + y) :: r) uc us S)
    | .lsub => pm_ll st (fun x y r => k (pc + 1) ls (.long (x - y) :: r) uc us S)
    | .land => pm_ll st (fun x y r => k (pc + 1) ls (.long (x &&& y) :: r) uc us S)
    | .lor => pm_ll st (fun x y r => k (pc + 1) ls (.long (x ||| y) :: r) uc us S)
    | .lxor => pm_ll st (fun x y r => k (pc + 1) ls (.long (x ^^^ y) :: r) uc us S)
    | .lshl => pm_li st (fun x y r => k (pc + 1) ls (.long (x <<< (y.toInt64 &&& 63)) :: r) uc us S)
    | .lushr => pm_li st (fun x y r => k (pc + 1) ls (.long (x.toUInt64 >>> (y.toInt64.toUInt64 &&& Int64.toUInt64 63)).toInt64 :: r) uc us S)
    | .lcmp => pm_ll st (fun x y r => k (pc + 1) ls (.int (lg_cmp x y) :: r) uc us S)
    | .i2l => pm_i st (fun x r => k (pc + 1) ls (.long x.toInt64 :: r) uc us S)
    | .l2i => pm_l st (fun x r => k (pc + 1) ls (.int x.toInt32 :: r) uc us S)
    | .i2c => pm_i st (fun x r => k (pc + 1) ls (.int (x.toUInt32 % 65536).toInt32 :: r) uc us S)
    | .dup => pm_dup st (fun v r => k (pc + 1) ls (v :: v :: r) uc us S)
    | .pop => pm_dup st (fun _ r => k (pc + 1) ls r uc us S)
    | .dup2 => pm_dup2 st (fun v w r => k (pc + 1) ls (v :: w :: v :: w :: r) uc us S)
    | .goto _ => k tg ls st uc us S
    | .ifCond c _ => pm_i st (fun x r => pm_cd c x 0 (k tg ls r uc us S) (k (pc + 3) ls r uc us S))
    | .if_icmp c _ => pm_ii st (fun x y r => pm_cd c x y (k tg ls r uc us S) (k (pc + 3) ls r uc us S))
    | .tableswitch df lo hi os => pm_i st (fun x r => pm_sw x.toInt lo hi pc df os (fun t => k t ls r uc us S))
    | .getfield i => pm_o (pc_fl C i) (fun q => pm_r st (fun a r => pm_ob S a q.1 (fun fs => pm_o (fs[q.2]?) (fun v => k (pc + 3) ls (v :: r) uc us S))))
    | .putfield i => pm_o (pc_fl C i) (fun q => pm_vr st (fun v a r => pm_ob S a q.1 (fun fs => q.2 < fs.length ∧ pm_o (pm_ft q.1 q.2) (fun t => pm_fit t.1 v = true ∧ (t.2 = true → pc_ini C = true) ∧ k (pc + 3) ls r uc us (pm_up S a (.inr (q.1, fs.set q.2 v)))))))
    | .iaload => pm_ir st (fun i a r => pm_ar S a 0 (fun n f => pm_ix i n (k (pc + 1) ls (.int (f i.toNatClampNeg) :: r) uc us S)))
    | .caload => pm_ir st (fun i a r => pm_ar S a 2 (fun n f => pm_ix i n (k (pc + 1) ls (.int (f i.toNatClampNeg) :: r) uc us S)))
    | .baload => pm_ir st (fun i a r => pm_ar S a 3 (fun n f => pm_ix i n (k (pc + 1) ls (.int (f i.toNatClampNeg) :: r) uc us S)))
    | .laload => pm_ir st (fun i a r => pm_aj S a (fun n f => pm_ix i n (k (pc + 1) ls (.long (f i.toNatClampNeg) :: r) uc us S)))
    | .iastore => pm_iir st (fun x i a r => pm_ar S a 0 (fun n f => pm_ix i n (k (pc + 1) ls r uc us (pm_up S a (.inl (0, n, .inl (upd f i.toNatClampNeg x)))))))
    | .castore => pm_iir st (fun x i a r => pm_ar S a 2 (fun n f => pm_ix i n (k (pc + 1) ls r uc us (pm_up S a (.inl (2, n, .inl (upd f i.toNatClampNeg (vp_nar .char x))))))))
    | .bastore => pm_iir st (fun x i a r => pm_ar S a 3 (fun n f => pm_ix i n (k (pc + 1) ls r uc us (pm_up S a (.inl (3, n, .inl (upd f i.toNatClampNeg (vp_nar .boolean x))))))))
    | .lastore => pm_lir st (fun x i a r => pm_aj S a (fun n f => pm_ix i n (k (pc + 1) ls r uc us (pm_up S a (.inl (1, n, .inr (vp_updL f i.toNatClampNeg x)))))))
    | .arraylength => pm_r st (fun a r => pm_an S a (fun n => k (pc + 1) ls (.int (Int32.ofNat n) :: r) uc us S))
    | .invokestatic i => pm_o (pc_ml C i) (fun q => (q.1 = 0 ∧ pm_ar1 st q.2.2.1 (fun as r => pm_inv call cost al nxe mc ms Q k pc ls q.2.1 as r uc us S)) ∨ (q.1 = 4 ∧ 3 ≤ d ∧ pm_cpy S st (fun b e r => r.length ≤ 4 ∧ k (pc + 3) ls r uc us (pm_up S b e))))
    | .invokevirtual i => pm_o (pc_ml C i) (fun q => (q.1 = 1 ∧ pm_ar1 st q.2.2.1 (fun as r => pm_r r (fun b r => pm_ob S b q.2.2.2 (fun _ => True) ∧ pm_inv call cost al nxe mc ms Q k pc ls q.2.1 (.ref b :: as) r uc us S))) ∨ (q.1 = 6 ∧ pm_ar1 st q.2.2.1 (fun as r => pm_t r (fun b r => pm_inv call cost al nxe mc ms Q k pc ls q.2.1 (.retAddr b :: as) r uc us S))))
    | .invokespecial i => pm_o (pc_ml C i) (fun q => (q.1 = 3 ∧ 2 ≤ d ∧ pm_r st (fun b r => pm_ob S b q.2.2.2 (fun _ => True) ∧ r = [] ∧ k (pc + 3) ls r uc us S)) ∨ (q.1 = 2 ∧ pm_ar1 st q.2.2.1 (fun as r => pm_r r (fun b r => pm_inv call cost al nxe mc ms (fun _ _ => False) k pc ls q.2.1 (.ref b :: as) r uc us S))))
    | .new i => (match pc_th C pc with
      | some E => 7 ≤ d ∧ st.length ≤ 4 ∧ uc + 1 ≤ mc ∧ us + 6 ≤ ms ∧ Q (.inr E) S
      | none => pm_o (pc_nw C i) (fun q => uc + 1 ≤ mc ∧ us + q.2.length ≤ ms ∧ (al = true ∧ S.1 = nxe + uc) ∧ k (pc + 3) ls (.ref S.1 :: st) (uc + 1) (us + q.2.length) (S.1 + 1, va_up S.2 S.1 (.inr q))))
    | .newarray t => pm_o (pm_akd t) (fun kd => pm_i st (fun n r => ¬ n < 0 ∧ n.toNatClampNeg ≤ 65536 ∧ uc + 1 ≤ mc ∧ us + n.toNatClampNeg ≤ ms ∧ (al = true ∧ S.1 = nxe + uc) ∧ k (pc + 2) ls (.ref S.1 :: r) (uc + 1) (us + n.toNatClampNeg) (S.1 + 1, va_up S.2 S.1 (pm_na kd n.toNatClampNeg))))
    | .ireturn => pm_i st (fun x r => r = [] ∧ pm_o (pc_rt C) (fun ty => pm_fit ty (.int x) = true ∧ (al = false → uc = 0 ∧ us = 0) ∧ Q (.inl (some (.int x))) S))
    | .lreturn => pm_l st (fun x r => r = [] ∧ pc_rt C = some .long ∧ (al = false → uc = 0 ∧ us = 0) ∧ Q (.inl (some (.long x))) S)
    | .return_ => st = [] ∧ pc_rt C = none ∧ (al = false → uc = 0 ∧ us = 0) ∧ Q (.inl none) S
    | _ => False
/-- the least predicate that is closed under the step -/
def pm_ev (C : pC) (d : Nat) (call : pCall) (cost : Nat → Nat × Nat × Bool) (al : Bool) (nxe mc ms : Nat) (Q : pQ) : pF := fun pc ls st uc us S =>
  ∀ X : pF, (∀ pc ls st uc us S, pm_step C d call cost al nxe mc ms Q X pc ls st uc us S → X pc ls st uc us S) → X pc ls st uc us S
def pm_sl (v : Value) : pL := if v.category = 2 then [some v, none] else [some v]
def pm_ent (maxL : Nat) (as : List Value) : pL := as.flatMap pm_sl ++ List.replicate (maxL - (as.flatMap pm_sl).length) none
/-- the methods: tables, locals; what isn't among them is told from outside -/
def pm_call (M : Nat → Option (pC × Nat)) (cost : Nat → Nat × Nat × Bool) (ext : pCall) : Nat → pCall
  | 0 => fun _ _ _ _ => False
  | d + 1 => fun j as S Q => match M j with
    | some q => (as.flatMap pm_sl).length ≤ q.2 ∧ pm_ev q.1 (d + 1) (pm_call M cost ext d) cost (cost j).2.2 S.1 (cost j).1 (cost j).2.1 Q 0 (pm_ent q.2 as) [] 0 0 S
    | none => 8 ≤ d ∧ ext j as S Q
end
section
theorem pm_o_m {α : Type} {o : Option α} {f g : α → Prop} (h : ∀ x, f x → g x) : pm_o o f → pm_o o g := by
  cases o with
  | none => exact id
  | some x => exact h x
theorem pm_gi_m {ls : pL} {i : Nat} {f g : Int32 → Prop} (h : ∀ x, f x → g x) : pm_gi ls i f → pm_gi ls i g := by
  unfold pm_gi; split
  · exact h _
  · exact id
theorem pm_gl_m {ls : pL} {i : Nat} {f g : Int64 → Prop} (h : ∀ x, f x → g x) : pm_gl ls i f → pm_gl ls i g := by
  unfold pm_gl; split
  · exact h _
  · exact id
theorem pm_ga_m {ls : pL} {i : Nat} {f g : Value → Prop} (h : ∀ x, f x → g x) : pm_ga ls i f → pm_ga ls i g := by
  unfold pm_ga; split
  · exact fun q => ⟨q.1, h _ q.2⟩
  · exact id
theorem pm_i_m {st : List Value} {f g : Int32 → List Value → Prop} (h : ∀ x r, f x r → g x r) : pm_i st f → pm_i st g := by
  unfold pm_i; split
  · exact h _ _
  · exact id
theorem pm_l_m {st : List Value} {f g : Int64 → List Value → Prop} (h : ∀ x r, f x r → g x r) : pm_l st f → pm_l st g := by
  unfold pm_l; split
  · exact h _ _
  · exact id
theorem pm_ii_m {st : List Value} {f g : Int32 → Int32 → List Value → Prop} (h : ∀ x y r, f x y r → g x y r) : pm_ii st f → pm_ii st g := by
  unfold pm_ii; split
  · exact h _ _ _
  · exact id
theorem pm_ll_m {st : List Value} {f g : Int64 → Int64 → List Value → Prop} (h : ∀ x y r, f x y r → g x y r) : pm_ll st f → pm_ll st g := by
  unfold pm_ll; split
  · exact h _ _ _
  · exact id
theorem pm_li_m {st : List Value} {f g : Int64 → Int32 → List Value → Prop} (h : ∀ x y r, f x y r → g x y r) : pm_li st f → pm_li st g := by
  unfold pm_li; split
  · exact h _ _ _
  · exact id
theorem pm_a_m {st : List Value} {f g : Value → List Value → Prop} (h : ∀ x r, f x r → g x r) : pm_a st f → pm_a st g := by
  unfold pm_a; split
  · exact fun q => ⟨q.1, h _ _ q.2⟩
  · exact id
theorem pm_r_m {st : List Value} {f g : Nat → List Value → Prop} (h : ∀ x r, f x r → g x r) : pm_r st f → pm_r st g := by
  unfold pm_r; split
  · exact h _ _
  · exact id
theorem pm_vr_m {st : List Value} {f g : Value → Nat → List Value → Prop} (h : ∀ v x r, f v x r → g v x r) : pm_vr st f → pm_vr st g := by
  unfold pm_vr; split
  · exact h _ _ _
  · exact id
theorem pm_ir_m {st : List Value} {f g : Int32 → Nat → List Value → Prop} (h : ∀ v x r, f v x r → g v x r) : pm_ir st f → pm_ir st g := by
  unfold pm_ir; split
  · exact h _ _ _
  · exact id
theorem pm_iir_m {st : List Value} {f g : Int32 → Int32 → Nat → List Value → Prop} (h : ∀ u v x r, f u v x r → g u v x r) : pm_iir st f → pm_iir st g := by
  unfold pm_iir; split
  · exact h _ _ _ _
  · exact id
theorem pm_lir_m {st : List Value} {f g : Int64 → Int32 → Nat → List Value → Prop} (h : ∀ u v x r, f u v x r → g u v x r) : pm_lir st f → pm_lir st g := by
  unfold pm_lir; split
  · exact h _ _ _ _
  · exact id
theorem pm_ob_m {S : pS} {a ci : Nat} {f g : List Value → Prop} (h : ∀ x, f x → g x) : pm_ob S a ci f → pm_ob S a ci g := by
  unfold pm_ob; rintro ⟨h1, h2⟩; refine ⟨h1, ?_⟩; revert h2; split
  · exact fun q => ⟨q.1, h _ q.2⟩
  · exact id
theorem pm_ar_m {S : pS} {a kd : Nat} {f g : Nat → (Nat → Int32) → Prop} (h : ∀ n x, f n x → g n x) : pm_ar S a kd f → pm_ar S a kd g := by
  unfold pm_ar; rintro ⟨h1, h2⟩; refine ⟨h1, ?_⟩; revert h2; split
  · exact fun q => ⟨q.1, h _ _ q.2⟩
  · exact id
theorem pm_aj_m {S : pS} {a : Nat} {f g : Nat → (Nat → Int64) → Prop} (h : ∀ n x, f n x → g n x) : pm_aj S a f → pm_aj S a g := by
  unfold pm_aj; rintro ⟨h1, h2⟩; refine ⟨h1, ?_⟩; revert h2; split
  · exact fun q => ⟨q.1, h _ _ q.2⟩
  · exact id
theorem pm_an_m {S : pS} {a : Nat} {f g : Nat → Prop} (h : ∀ n, f n → g n) : pm_an S a f → pm_an S a g := by
  unfold pm_an; rintro ⟨h1, h2⟩; refine ⟨h1, ?_⟩; revert h2; split
  · exact fun q => ⟨q.1, q.2.1, h _ q.2.2⟩
  · exact fun q => ⟨q.1, h _ q.2⟩
  · exact id
theorem pm_cd_m {c : Jvm.ClassFile.Cond} {x y : Int32} {t f t' f' : Prop} (h1 : t → t') (h2 : f → f') : pm_cd c x y t f → pm_cd c x y t' f' := by
  cases c <;> exact fun q => ⟨fun z => h1 (q.1 z), fun z => h2 (q.2 z)⟩
theorem pm_ix_m {i : Int32} {n : Nat} {f g : Prop} (h : f → g) : pm_ix i n f → pm_ix i n g := fun q => ⟨q.1, h q.2⟩
theorem pm_ar1_m {st : List Value} {n : Nat} {f g : List Value → List Value → Prop} (h : ∀ a r, f a r → g a r) : pm_ar1 st n f → pm_ar1 st n g := fun q => ⟨q.1, h _ _ q.2⟩
theorem pm_sw_m {x lo hi : Int} {pc : Nat} {d : Int} {os : Array Int} {f g : Nat → Prop} (h : ∀ t, f t → g t) : pm_sw x lo hi pc d os f → pm_sw x lo hi pc d os g := by
  unfold pm_sw; split
  · exact fun q => ⟨q.1, h _ q.2⟩
  · exact pm_o_m (fun _ q => ⟨q.1, h _ q.2⟩)
theorem pm_dup_m {st : List Value} {f g : Value → List Value → Prop} (h : ∀ x r, f x r → g x r) : pm_dup st f → pm_dup st g := by
  unfold pm_dup; split
  · exact fun q => ⟨q.1, h _ _ q.2⟩
  · exact id
theorem pm_dup2_m {st : List Value} {f g : Value → Value → List Value → Prop} (h : ∀ x y r, f x y r → g x y r) : pm_dup2 st f → pm_dup2 st g := by
  unfold pm_dup2; split
  · exact fun q => ⟨q.1, q.2.1, h _ _ _ q.2.2⟩
  · exact id
theorem pm_kl_m {o : Option Value} {f g : Int64 → Prop} (h : ∀ x, f x → g x) : pm_kl o f → pm_kl o g := by
  unfold pm_kl; split
  · exact h _
  · exact id
theorem pm_ki_m {o : Option Value} {f g : Value → Prop} (h : ∀ x, f x → g x) : pm_ki o f → pm_ki o g := by
  unfold pm_ki; split
  · exact h _
  · exact h _
  · exact id
theorem pm_t_m {st : List Value} {f g : Nat → List Value → Prop} (h : ∀ x r, f x r → g x r) : pm_t st f → pm_t st g := by
  unfold pm_t; split
  · exact h _ _
  · exact id
theorem pm_cpy_m {S : pS} {st : List Value} {f g : Nat → pE → List Value → Prop} (h : ∀ x e r, f x e r → g x e r) : pm_cpy S st f → pm_cpy S st g := by
  unfold pm_cpy; split
  · exact pm_ar_m (fun _ _ => pm_ar_m (fun _ _ q => ⟨q.1, q.2.1, q.2.2.1, q.2.2.2.1, q.2.2.2.2.1, h _ _ _ q.2.2.2.2.2⟩))
  · exact id
theorem pm_inv_m {call : pCall} {cost : Nat → Nat × Nat × Bool} {al : Bool} {nxe mc ms : Nat} {Q Q' : pQ} {k k' : pF} (hc : ∀ j as S (Q Q' : pQ), (∀ o S, Q o S → Q' o S) → call j as S Q → call j as S Q') (hq : ∀ o S, Q o S → Q' o S) (hk : ∀ a b c d e f, k a b c d e f → k' a b c d e f) {pc : Nat} {ls : pL} {j : Nat} {as r : List Value} {uc us : Nat} {S : pS} : pm_inv call cost al nxe mc ms Q k pc ls j as r uc us S → pm_inv call cost al nxe mc ms Q' k' pc ls j as r uc us S := by
  rintro ⟨h1, h2, h3, h4, h5⟩
  refine ⟨h1, h2, h3, h4, hc _ _ _ _ _ (fun o S1 => ?_) h5⟩
  cases o with
  | inl v => exact hk _ _ _ _ _ _
  | inr E => exact hq _ _
theorem pm_step_m {C : pC} {d : Nat} {call : pCall} {cost : Nat → Nat × Nat × Bool} {al : Bool} {nxe mc ms : Nat} {Q Q' : pQ} {k k' : pF} (hc : ∀ j as S (Q Q' : pQ), (∀ o S, Q o S → Q' o S) → call j as S Q → call j as S Q') (hq : ∀ o S, Q o S → Q' o S) (hk : ∀ a b c d e f, k a b c d e f → k' a b c d e f) (pc : Nat) (ls : pL) (st : List Value) (uc us : Nat) (S : pS) : pm_step C d call cost al nxe mc ms Q k pc ls st uc us S → pm_step C d call cost al nxe mc ms Q' k' pc ls st uc us S := by
  unfold pm_step
  cases pc_in C pc with
  | none => exact id
  | some q =>
    obtain ⟨ins, tg⟩ := q
    cases ins <;> first
      | exact id
      | exact hk _ _ _ _ _ _
      | exact pm_ki_m (fun _ => hk _ _ _ _ _ _)
      | exact pm_kl_m (fun _ => hk _ _ _ _ _ _)
      | exact pm_gi_m (fun _ => hk _ _ _ _ _ _)
      | exact pm_gl_m (fun _ => hk _ _ _ _ _ _)
      | exact pm_ga_m (fun _ => hk _ _ _ _ _ _)
      | exact pm_gi_m (fun _ h => ⟨h.1, hk _ _ _ _ _ _ h.2⟩)
      | exact pm_i_m (fun _ _ => hk _ _ _ _ _ _)
      | exact pm_l_m (fun _ _ => hk _ _ _ _ _ _)
      | exact pm_i_m (fun _ _ h => ⟨h.1, hk _ _ _ _ _ _ h.2⟩)
      | exact pm_l_m (fun _ _ h => ⟨h.1, hk _ _ _ _ _ _ h.2⟩)
      | exact pm_a_m (fun _ _ h => ⟨h.1, hk _ _ _ _ _ _ h.2⟩)
      | exact pm_ii_m (fun _ _ _ => hk _ _ _ _ _ _)
      | exact pm_ii_m (fun _ _ _ h => ⟨h.1, hk _ _ _ _ _ _ h.2⟩)
      | exact pm_ll_m (fun _ _ _ => hk _ _ _ _ _ _)
      | exact pm_li_m (fun _ _ _ => hk _ _ _ _ _ _)
      | exact pm_dup_m (fun _ _ => hk _ _ _ _ _ _)
      | exact pm_dup2_m (fun _ _ _ => hk _ _ _ _ _ _)
      | exact pm_i_m (fun _ _ => pm_cd_m (hk _ _ _ _ _ _) (hk _ _ _ _ _ _))
      | exact pm_ii_m (fun _ _ _ => pm_cd_m (hk _ _ _ _ _ _) (hk _ _ _ _ _ _))
      | exact pm_i_m (fun _ _ => pm_sw_m (fun _ => hk _ _ _ _ _ _))
      | exact pm_o_m (fun _ => pm_r_m (fun _ _ => pm_ob_m (fun _ => pm_o_m (fun _ => hk _ _ _ _ _ _))))
      | exact pm_o_m (fun _ => pm_vr_m (fun _ _ _ => pm_ob_m (fun _ h => ⟨h.1, pm_o_m (fun _ h => ⟨h.1, h.2.1, hk _ _ _ _ _ _ h.2.2⟩) h.2⟩)))
      | exact pm_ir_m (fun _ _ _ => pm_ar_m (fun _ _ => pm_ix_m (hk _ _ _ _ _ _)))
      | exact pm_ir_m (fun _ _ _ => pm_aj_m (fun _ _ => pm_ix_m (hk _ _ _ _ _ _)))
      | exact pm_iir_m (fun _ _ _ _ => pm_ar_m (fun _ _ => pm_ix_m (hk _ _ _ _ _ _)))
      | exact pm_lir_m (fun _ _ _ _ => pm_aj_m (fun _ _ => pm_ix_m (hk _ _ _ _ _ _)))
      | exact pm_r_m (fun _ _ => pm_an_m (fun _ => hk _ _ _ _ _ _))
      | exact pm_o_m (fun _ h => h.elim (fun h => Or.inl ⟨h.1, pm_ar1_m (fun _ _ => pm_inv_m hc hq hk) h.2⟩) (fun h => Or.inr ⟨h.1, h.2.1, pm_cpy_m (fun _ _ _ h => ⟨h.1, hk _ _ _ _ _ _ h.2⟩) h.2.2⟩))
      | exact pm_o_m (fun _ h => h.elim (fun h => Or.inl ⟨h.1, pm_ar1_m (fun _ _ => pm_r_m (fun _ _ h => ⟨h.1, pm_inv_m hc hq hk h.2⟩)) h.2⟩) (fun h => Or.inr ⟨h.1, pm_ar1_m (fun _ _ => pm_t_m (fun _ _ => pm_inv_m hc hq hk)) h.2⟩))
      | exact pm_o_m (fun _ h => h.elim (fun h => Or.inl ⟨h.1, h.2.1, pm_r_m (fun _ _ h => ⟨h.1, h.2.1, hk _ _ _ _ _ _ h.2.2⟩) h.2.2⟩) (fun h => Or.inr ⟨h.1, pm_ar1_m (fun _ _ => pm_r_m (fun _ _ => pm_inv_m hc (fun _ _ => id) hk)) h.2⟩))
      | exact pm_o_m (fun _ => pm_i_m (fun _ _ h => ⟨h.1, h.2.1, h.2.2.1, h.2.2.2.1, h.2.2.2.2.1, hk _ _ _ _ _ _ h.2.2.2.2.2⟩))
      | exact pm_i_m (fun _ _ h => ⟨h.1, pm_o_m (fun _ h => ⟨h.1, h.2.1, hq _ _ h.2.2⟩) h.2⟩)
      | exact pm_l_m (fun _ _ h => ⟨h.1, h.2.1, h.2.2.1, hq _ _ h.2.2.2⟩)
      | exact fun h => ⟨h.1, h.2.1, h.2.2.1, hq _ _ h.2.2.2⟩
      | skip
    show (match pc_th C pc with
      | some E => 7 ≤ d ∧ st.length ≤ 4 ∧ uc + 1 ≤ mc ∧ us + 6 ≤ ms ∧ Q (.inr E) S
      | none => pm_o (pc_nw C _) (fun q => uc + 1 ≤ mc ∧ us + q.2.length ≤ ms ∧ (al = true ∧ S.1 = nxe + uc) ∧ k (pc + 3) ls (.ref S.1 :: st) (uc + 1) (us + q.2.length) (S.1 + 1, va_up S.2 S.1 (.inr q)))) → _
    cases pc_th C pc with
    | some E => exact fun h => ⟨h.1, h.2.1, h.2.2.1, h.2.2.2.1, hq _ _ h.2.2.2.2⟩
    | none => exact pm_o_m (fun _ h => ⟨h.1, h.2.1, h.2.2.1, hk _ _ _ _ _ _ h.2.2.2⟩)
theorem pm_go {C : pC} {d : Nat} {call : pCall} {cost : Nat → Nat × Nat × Bool} {al : Bool} {nxe mc ms : Nat} {Q : pQ} (hc : ∀ j as S (Q Q' : pQ), (∀ o S, Q o S → Q' o S) → call j as S Q → call j as S Q') {pc : Nat} {ls : pL} {st : List Value} {uc us : Nat} {S : pS} (h : pm_step C d call cost al nxe mc ms Q (pm_ev C d call cost al nxe mc ms Q) pc ls st uc us S) : pm_ev C d call cost al nxe mc ms Q pc ls st uc us S := by
  intro X hX
  exact hX _ _ _ _ _ _ (pm_step_m hc (fun _ _ => id) (fun _ _ _ _ _ _ q => q X hX) _ _ _ _ _ _ h)
theorem pm_ev_m {C : pC} {d : Nat} {call : pCall} {cost : Nat → Nat × Nat × Bool} {al : Bool} {nxe mc ms : Nat} {Q Q' : pQ} (hc : ∀ j as S (Q Q' : pQ), (∀ o S, Q o S → Q' o S) → call j as S Q → call j as S Q') (hq : ∀ o S, Q o S → Q' o S) {pc : Nat} {ls : pL} {st : List Value} {uc us : Nat} {S : pS} (h : pm_ev C d call cost al nxe mc ms Q pc ls st uc us S) : pm_ev C d call cost al nxe mc ms Q' pc ls st uc us S := by
  refine h _ (fun pc ls st uc us S q => pm_go hc (pm_step_m hc hq (fun _ _ _ _ _ _ z => z) _ _ _ _ _ _ q))
theorem pm_call_m {M : Nat → Option (pC × Nat)} {cost : Nat → Nat × Nat × Bool} {ext : pCall} (he : ∀ j as S (Q Q' : pQ), (∀ o S, Q o S → Q' o S) → ext j as S Q → ext j as S Q') : ∀ (d : Nat) (j : Nat) (as : List Value) (S : pS) (Q Q' : pQ), (∀ o S, Q o S → Q' o S) → pm_call M cost ext d j as S Q → pm_call M cost ext d j as S Q'
  | 0, _, _, _, _, _, _ => id
  | d + 1, j, as, S, Q, Q', hq => by
    unfold pm_call
    cases M j with
    | some q => exact fun h => ⟨h.1, pm_ev_m (pm_call_m he d) hq h.2⟩
    | none => exact fun h => ⟨h.1, he _ _ _ _ _ hq h.2⟩
end
section
theorem pm_gi_e {ls : pL} {i : Nat} {f : Int32 → Prop} (h : pm_gi ls i f) : ∃ x, pm_get ls i = some (.int x) ∧ f x := by
  unfold pm_gi at h; split at h
  · exact ⟨_, ‹_›, h⟩
  · exact h.elim
theorem pm_gl_e {ls : pL} {i : Nat} {f : Int64 → Prop} (h : pm_gl ls i f) : ∃ x, pm_get ls i = some (.long x) ∧ f x := by
  unfold pm_gl at h; split at h
  · exact ⟨_, ‹_›, h⟩
  · exact h.elim
theorem pm_ga_e {ls : pL} {i : Nat} {f : Value → Prop} (h : pm_ga ls i f) : ∃ v, pm_get ls i = some v ∧ pm_isr v = true ∧ f v := by
  unfold pm_ga at h; split at h
  · exact ⟨_, ‹_›, h.1, h.2⟩
  · exact h.elim
theorem pm_i_e {st : List Value} {f : Int32 → List Value → Prop} (h : pm_i st f) : ∃ x r, st = .int x :: r ∧ f x r := by
  unfold pm_i at h; split at h
  · exact ⟨_, _, rfl, h⟩
  · exact h.elim
theorem pm_l_e {st : List Value} {f : Int64 → List Value → Prop} (h : pm_l st f) : ∃ x r, st = .long x :: r ∧ f x r := by
  unfold pm_l at h; split at h
  · exact ⟨_, _, rfl, h⟩
  · exact h.elim
theorem pm_ii_e {st : List Value} {f : Int32 → Int32 → List Value → Prop} (h : pm_ii st f) : ∃ x y r, st = .int y :: .int x :: r ∧ f x y r := by
  unfold pm_ii at h; split at h
  · exact ⟨_, _, _, rfl, h⟩
  · exact h.elim
theorem pm_ll_e {st : List Value} {f : Int64 → Int64 → List Value → Prop} (h : pm_ll st f) : ∃ x y r, st = .long y :: .long x :: r ∧ f x y r := by
  unfold pm_ll at h; split at h
  · exact ⟨_, _, _, rfl, h⟩
  · exact h.elim
theorem pm_li_e {st : List Value} {f : Int64 → Int32 → List Value → Prop} (h : pm_li st f) : ∃ x y r, st = .int y :: .long x :: r ∧ f x y r := by
  unfold pm_li at h; split at h
  · exact ⟨_, _, _, rfl, h⟩
  · exact h.elim
theorem pm_a_e {st : List Value} {f : Value → List Value → Prop} (h : pm_a st f) : ∃ v r, st = v :: r ∧ pm_isr v = true ∧ f v r := by
  unfold pm_a at h; split at h
  · exact ⟨_, _, rfl, h.1, h.2⟩
  · exact h.elim
theorem pm_r_e {st : List Value} {f : Nat → List Value → Prop} (h : pm_r st f) : ∃ a r, st = .ref a :: r ∧ f a r := by
  unfold pm_r at h; split at h
  · exact ⟨_, _, rfl, h⟩
  · exact h.elim
theorem pm_vr_e {st : List Value} {f : Value → Nat → List Value → Prop} (h : pm_vr st f) : ∃ v a r, st = v :: .ref a :: r ∧ f v a r := by
  unfold pm_vr at h; split at h
  · exact ⟨_, _, _, rfl, h⟩
  · exact h.elim
theorem pm_ir_e {st : List Value} {f : Int32 → Nat → List Value → Prop} (h : pm_ir st f) : ∃ i a r, st = .int i :: .ref a :: r ∧ f i a r := by
  unfold pm_ir at h; split at h
  · exact ⟨_, _, _, rfl, h⟩
  · exact h.elim
theorem pm_iir_e {st : List Value} {f : Int32 → Int32 → Nat → List Value → Prop} (h : pm_iir st f) : ∃ x i a r, st = .int x :: .int i :: .ref a :: r ∧ f x i a r := by
  unfold pm_iir at h; split at h
  · exact ⟨_, _, _, _, rfl, h⟩
  · exact h.elim
theorem pm_lir_e {st : List Value} {f : Int64 → Int32 → Nat → List Value → Prop} (h : pm_lir st f) : ∃ x i a r, st = .long x :: .int i :: .ref a :: r ∧ f x i a r := by
  unfold pm_lir at h; split at h
  · exact ⟨_, _, _, _, rfl, h⟩
  · exact h.elim
theorem pm_o_e {α : Type} {o : Option α} {f : α → Prop} (h : pm_o o f) : ∃ x, o = some x ∧ f x := by
  unfold pm_o at h; split at h
  · exact ⟨_, rfl, h⟩
  · exact h.elim
theorem pm_ob_e {S : pS} {a ci : Nat} {f : List Value → Prop} (h : pm_ob S a ci f) : a < S.1 ∧ ∃ fs, S.2 a = .inr (ci, fs) ∧ f fs := by
  obtain ⟨h1, h2⟩ := h
  refine ⟨h1, ?_⟩
  revert h2; split
  · rintro ⟨rfl, h3⟩; exact ⟨_, ‹_›, h3⟩
  · exact False.elim
theorem pm_ar_e {S : pS} {a kd : Nat} {f : Nat → (Nat → Int32) → Prop} (h : pm_ar S a kd f) : a < S.1 ∧ ∃ n g, S.2 a = .inl (kd, n, .inl g) ∧ f n g := by
  obtain ⟨h1, h2⟩ := h
  refine ⟨h1, ?_⟩
  revert h2; split
  · rintro ⟨rfl, h3⟩; exact ⟨_, _, ‹_›, h3⟩
  · exact False.elim
theorem pm_aj_e {S : pS} {a : Nat} {f : Nat → (Nat → Int64) → Prop} (h : pm_aj S a f) : a < S.1 ∧ ∃ n g, S.2 a = .inl (1, n, .inr g) ∧ f n g := by
  obtain ⟨h1, h2⟩ := h
  refine ⟨h1, ?_⟩
  revert h2; split
  · rintro ⟨rfl, h3⟩; exact ⟨_, _, ‹_›, h3⟩
  · exact False.elim
theorem pm_an_e {S : pS} {a : Nat} {f : Nat → Prop} (h : pm_an S a f) : a < S.1 ∧ ∃ n, ((∃ k g, S.2 a = .inl (k, n, .inl g) ∧ k < 4) ∨ ∃ g, S.2 a = .inl (1, n, .inr g)) ∧ f n := by
  obtain ⟨h1, h2⟩ := h
  refine ⟨h1, ?_⟩
  revert h2; split
  · rintro ⟨h2, -, h3⟩; exact ⟨_, Or.inl ⟨_, _, ‹_›, h2⟩, h3⟩
  · rintro ⟨rfl, h3⟩; exact ⟨_, Or.inr ⟨_, ‹_›⟩, h3⟩
  · exact False.elim
theorem pm_dup_e {st : List Value} {f : Value → List Value → Prop} (h : pm_dup st f) : ∃ v r, st = v :: r ∧ v.category = 1 ∧ f v r := by
  unfold pm_dup at h; split at h
  · exact ⟨_, _, rfl, h.1, h.2⟩
  · exact h.elim
theorem pm_dup2_e {st : List Value} {f : Value → Value → List Value → Prop} (h : pm_dup2 st f) : ∃ v w r, st = v :: w :: r ∧ v.category = 1 ∧ w.category = 1 ∧ f v w r := by
  unfold pm_dup2 at h; split at h
  · exact ⟨_, _, _, rfl, h.1, h.2.1, h.2.2⟩
  · exact h.elim
theorem pm_kl_e {o : Option Value} {f : Int64 → Prop} (h : pm_kl o f) : ∃ x, o = some (.long x) ∧ f x := by
  unfold pm_kl at h; split at h
  · exact ⟨_, rfl, h⟩
  · exact h.elim
theorem pm_ki_e {o : Option Value} {f : Value → Prop} (h : pm_ki o f) : (∃ x, o = some (.int x) ∧ f (.int x)) ∨ ∃ x, o = some (.retAddr x) ∧ f (.retAddr x) := by
  unfold pm_ki at h; split at h
  · exact Or.inl ⟨_, rfl, h⟩
  · exact Or.inr ⟨_, rfl, h⟩
  · exact h.elim
theorem pm_v_cat (n0 : Nat) (sa : Nat → Nat) (v : Value) : (pm_v n0 sa v).category = v.category := by cases v <;> rfl
theorem pm_v_isr {n0 : Nat} {sa : Nat → Nat} {v : Value} (h : pm_isr v = true) : ∃ a, pm_v n0 sa v = .ref a := by
  cases v <;> first | exact ⟨_, rfl⟩ | (simp [pm_isr] at h)
theorem pm_w_get {n0 : Nat} {sa : Nat → Nat} {ck : Nat → ClassId} {S : pS} {i : Nat} (h : i < S.1) : (pm_w n0 sa ck S)[i]? = some (n0 + i, pm_e n0 sa ck (S.2 i)) := by
  simp [pm_w, List.getElem?_range h]
theorem pm_w_len {n0 : Nat} {sa : Nat → Nat} {ck : Nat → ClassId} {S : pS} : (pm_w n0 sa ck S).length = S.1 := by simp [pm_w]
theorem pm_w_set {n0 : Nat} {sa : Nat → Nat} {ck : Nat → ClassId} {S : pS} {i : Nat} (e : pE) : (pm_w n0 sa ck S).set i (n0 + i, pm_e n0 sa ck e) = pm_w n0 sa ck (pm_up S i e) := by
  apply List.ext_getElem?
  intro j
  by_cases hj : j < S.1
  · by_cases hi : j = i
    · subst hi
      rw [List.getElem?_set_self (by rw [pm_w_len]; exact hj), pm_w_get (S := pm_up S j e) hj]
      simp [pm_up, va_up]
    · rw [List.getElem?_set_ne (fun q => hi q.symm), pm_w_get hj, pm_w_get (S := pm_up S i e) hj]
      simp [pm_up, va_up, hi]
  · rw [List.getElem?_eq_none (by rw [List.length_set, pm_w_len]; omega), List.getElem?_eq_none (by rw [pm_w_len]; exact Nat.not_lt.mp hj)]
theorem pm_w_push {n0 : Nat} {sa : Nat → Nat} {ck : Nat → ClassId} {S : pS} (e : pE) : pm_w n0 sa ck S ++ [(n0 + S.1, pm_e n0 sa ck e)] = pm_w n0 sa ck (S.1 + 1, va_up S.2 S.1 e) := by
  unfold pm_w
  rw [show (S.1 + 1, va_up S.2 S.1 e).1 = S.1 + 1 from rfl, List.range_succ, List.map_append]
  congr 1
  · apply List.map_congr_left
    intro i hi
    have : i ≠ S.1 := fun q => by rw [q] at hi; simp at hi
    simp [va_up, this]
  · simp [va_up]
theorem pm_w_D {n0 : Nat} {sa : Nat → Nat} {ck : Nat → ClassId} {S : pS} : va_D (fun q => n0 ≤ q) (pm_w n0 sa ck S) := by
  have key : ∀ (k : Nat) (q : Nat × va_E), (pm_w n0 sa ck S)[k]? = some q → q.1 = n0 + k := by
    intro k q h
    have hk : k < S.1 := by
      have := (List.getElem?_eq_some_iff.mp h).1
      rwa [pm_w_len] at this
    rw [pm_w_get hk] at h
    cases h
    rfl
  refine ⟨fun i j p q hi hj h => ?_, fun k q h => ?_⟩
  · rw [key i p hi, key j q hj] at h
    omega
  · rw [key k q h]
    exact Nat.le_add_right _ _
def pm_lr (n0 : Nat) (sa : Nat → Nat) (lsA : Array Slot) (nL : Nat) (ls : pL) : Prop := ls.length = nL ∧ lsA.size = nL ∧ lv_wf lsA ∧ ∀ i v, pm_get ls i = some v → lsA[i]? = some (.val (pm_v n0 sa v))
def pm_lp (n0 : Nat) (sa : Nat → Nat) (nL : Nat) (ls : pL) : List (Nat × Value) := (List.range nL).filterMap (fun i => (pm_get ls i).map (fun v => (i, pm_v n0 sa v)))
theorem pm_lp_mem {n0 : Nat} {sa : Nat → Nat} {nL : Nat} {ls : pL} {i : Nat} {v : Value} (hl : ls.length = nL) (h : pm_get ls i = some v) : (i, pm_v n0 sa v) ∈ pm_lp n0 sa nL ls := by
  unfold pm_lp
  refine List.mem_filterMap.mpr ⟨i, ?_, by rw [h]; rfl⟩
  rw [List.mem_range]
  unfold pm_get at h
  cases hi : ls[i]? with
  | none => rw [hi] at h; cases h
  | some o => rw [← hl]; exact (List.getElem?_eq_some_iff.mp hi).1
theorem pm_lr_has {n0 : Nat} {sa : Nat → Nat} {lsA : Array Slot} {nL : Nat} {ls : pL} (h : pm_lr n0 sa lsA nL ls) : lv_has lsA nL (pm_lp n0 sa nL ls) := by
  obtain ⟨h1, h2, h3, h4⟩ := h
  refine ⟨h2, h3, fun q hq => ?_⟩
  obtain ⟨i, -, hi⟩ := List.mem_filterMap.mp hq
  cases hg : pm_get ls i with
  | none => rw [hg] at hi; cases hi
  | some v => rw [hg] at hi; cases hi; exact h4 i v hg
theorem pm_get_set (ls : pL) (j : Nat) (x : Option Value) (i : Nat) : pm_get (ls.set j x) i = if j = i then (if j < ls.length then x else none) else pm_get ls i := by
  unfold pm_get
  by_cases h : j = i
  · subst h
    by_cases hl : j < ls.length
    · rw [List.getElem?_set_self hl, if_pos rfl, if_pos hl]; rfl
    · rw [List.getElem?_eq_none (by rw [List.length_set]; omega), if_pos rfl, if_neg hl]; rfl
  · rw [List.getElem?_set_ne h, if_neg h]
theorem pm_clr_len (ls : pL) (i : Nat) : (pm_clr ls i).length = ls.length := by
  unfold pm_clr
  split
  · rfl
  · split
    · split
      · rw [List.length_set]
      · rfl
    · rfl
theorem pm_set_len (ls : pL) (i : Nat) (v : Value) : (pm_set ls i v).length = ls.length := by
  unfold pm_set
  split
  · rw [List.length_set, List.length_set, pm_clr_len]
  · rw [List.length_set, pm_clr_len]
theorem pm_get_clr {ls : pL} {i j : Nat} {w : Value} (h : pm_get (pm_clr ls i) j = some w) : pm_get ls j = some w ∧ (j + 1 = i → w.category ≠ 2) := by
  unfold pm_clr at h
  split at h
  · exact ⟨h, fun q => by omega⟩
  · rename_i k
    split at h
    · rename_i u hu
      split at h
      · rw [pm_get_set] at h
        by_cases hk : k = j
        · rw [if_pos hk] at h
          split at h <;> cases h
        · rw [if_neg hk] at h
          exact ⟨h, fun q => by omega⟩
      · rename_i hc
        refine ⟨h, fun q => ?_⟩
        have hkj : k = j := by omega
        subst hkj
        rw [hu] at h
        cases h
        exact hc
    · rename_i hu
      refine ⟨h, fun q => ?_⟩
      have hkj : k = j := by omega
      subst hkj
      rw [hu] at h
      cases h
theorem pm_lr_set1 {n0 : Nat} {sa : Nat → Nat} {lsA : Array Slot} {nL : Nat} {ls : pL} {i : Nat} {v : Value} (hc : v.category = 1) (hl : ls.length = nL) (h : lv_has lsA nL ((i, pm_v n0 sa v) :: (pm_lp n0 sa nL ls).filter (fun q => !(q.1 == i) && !(q.1 + 1 == i && q.2.category == 2)))) : pm_lr n0 sa lsA nL (pm_set ls i v) := by
  refine ⟨by rw [pm_set_len, hl], h.1, h.2.1, fun j w hj => ?_⟩
  unfold pm_set at hj
  rw [if_neg (by omega), pm_get_set] at hj
  by_cases hij : i = j
  · subst hij
    rw [if_pos rfl] at hj
    split at hj
    · cases hj
      exact h.2.2 (i, _) List.mem_cons_self
    · cases hj
  · rw [if_neg hij] at hj
    obtain ⟨h1, h2⟩ := pm_get_clr hj
    refine h.2.2 (j, pm_v n0 sa w) (List.mem_cons_of_mem _ (List.mem_filter.mpr ⟨pm_lp_mem hl h1, ?_⟩))
    have e1 : (j == i) = false := by simp; omega
    simp only [e1, pm_v_cat, Bool.not_false, Bool.true_and, Bool.not_eq_true', Bool.and_eq_false_iff, beq_eq_false_iff_ne]
    by_cases hji : j + 1 = i
    · exact Or.inr (h2 hji)
    · exact Or.inl hji
theorem pm_lr_set2 {n0 : Nat} {sa : Nat → Nat} {lsA : Array Slot} {nL : Nat} {ls : pL} {i : Nat} {v : Value} (hc : v.category = 2) (hl : ls.length = nL) (h : lv_has lsA nL ((i, pm_v n0 sa v) :: (pm_lp n0 sa nL ls).filter (fun q => !(q.1 == i) && (!(q.1 == i + 1) && !(q.1 + 1 == i && q.2.category == 2))))) : pm_lr n0 sa lsA nL (pm_set ls i v) := by
  refine ⟨by rw [pm_set_len, hl], h.1, h.2.1, fun j w hj => ?_⟩
  unfold pm_set at hj
  rw [if_pos hc, pm_get_set] at hj
  by_cases hij1 : i + 1 = j
  · rw [if_pos hij1] at hj
    split at hj <;> cases hj
  · rw [if_neg hij1, pm_get_set] at hj
    by_cases hij : i = j
    · subst hij
      rw [if_pos rfl] at hj
      split at hj
      · cases hj
        exact h.2.2 (i, _) List.mem_cons_self
      · cases hj
    · rw [if_neg hij] at hj
      obtain ⟨h1, h2⟩ := pm_get_clr hj
      refine h.2.2 (j, pm_v n0 sa w) (List.mem_cons_of_mem _ (List.mem_filter.mpr ⟨pm_lp_mem hl h1, ?_⟩))
      have e1 : (j == i) = false := by simp; omega
      have e2 : (j == i + 1) = false := by simp; omega
      simp only [e1, e2, pm_v_cat, Bool.not_false, Bool.true_and, Bool.not_eq_true', Bool.and_eq_false_iff, beq_eq_false_iff_ne]
      by_cases hji : j + 1 = i
      · exact Or.inr (h2 hji)
      · exact Or.inl hji
theorem pm_fit_ok {n0 : Nat} {sa : Nat → Nat} {ty : FieldType} {v : Value} (h : pm_fit ty v = true) : narrow ty (pm_v n0 sa v) = pm_v n0 sa v ∧ fits ty (pm_v n0 sa v) = true := by
  unfold pm_fit at h
  split at h
  · exact ⟨rfl, rfl⟩
  · exact ⟨rfl, rfl⟩
  · rename_i x
    rcases (by simpa using h : x = 0 ∨ x = 1) with rfl | rfl <;> exact ⟨rfl, rfl⟩
  · exact ⟨rfl, rfl⟩
  · exact ⟨rfl, rfl⟩
  · cases h
end
section
def pm_len : Instr → Nat
  | .bipush _ => 2 | .sipush _ => 3 | .ldc _ => 2 | .ldc_w _ => 3 | .ldc2_w _ => 3 | .iload _ => 2 | .lload _ => 2 | .aload _ => 2 | .istore _ => 2 | .lstore _ => 2 | .astore _ => 2 | .iinc _ _ => 3
  | .goto _ => 3 | .ifCond _ _ => 3 | .if_icmp _ _ => 3 | .getfield _ => 3 | .putfield _ => 3 | .invokestatic _ => 3 | .invokevirtual _ => 3 | .invokespecial _ => 3 | .new _ => 3 | .newarray _ => 2 | .tableswitch _ _ _ _ => 0
  | _ => 1
def pm_off : Instr → Option Int
  | .goto o => some o
  | .ifCond _ o => some o
  | .if_icmp _ o => some o
  | _ => none
def pm_okI (cc : ByteArray) (pc : Nat) (ins : Instr) (tg : Nat) : Prop := (∃ len, decode cc pc = .ok (ins, len) ∧ (pm_len ins = 0 ∨ len = pm_len ins)) ∧ (∀ o, pm_off ins = some o → (pc : Int) + o = (tg : Int))
theorem pm_okI.d {cc : ByteArray} {pc : Nat} {ins : Instr} {tg : Nat} (h : pm_okI cc pc ins tg) {n : Nat} (hn : pm_len ins = n + 1) : decode cc pc = .ok (ins, n + 1) := by
  obtain ⟨⟨len, h1, h2⟩, -⟩ := h
  rcases h2 with h2 | h2
  · omega
  · rw [h1, h2, hn]
/-- the array classes: ints, longs, chars, booleans -/
def pm_tys (ck : Nat → ClassId) : List (ClassId × FieldType) := [(ck 0, .int), (ck 1, .long), (ck 2, .char), (ck 3, .boolean)]
/-- a body's surroundings -/
def pm_B (p : Program) (s : State) (m : MethodId) (args : Array Value) (meth : Method) (c : Code) (D : va_G) (ck : Nat → ClassId) (n0 : Nat) (C : pC) (cc : ByteArray) (nL : Nat) (own : String) (Ts : List Cond) (G : State → Prop) : Prop :=
  p.tables.exec = Jvm.exec ∧ c.code = cc ∧ c.maxLocals = nL ∧ s.vm.findClass own = some m.cls ∧ (∀ w ∈ Ts, w.before args s = true) ∧ meth.sig.returnType = pc_rt C ∧ meth.locks = false ∧ (∀ x ∈ c.exceptionTable.toList, False) ∧ (pc_ini C = true → meth.name = "<init>") ∧ va_K D vwCl (pm_tys ck) s ∧ n0 ≤ s.heap.size ∧ G s
/-- no cell more, each as long as it was -/
def pm_same (st t : State) : Prop := t.heap.size = st.heap.size ∧ ∀ (a : Nat) (c : Cell), st.heap[a]? = some c → ∃ c', t.heap[a]? = some c' ∧ c'.slots.size = c.slots.size
def pm_Qc (D : va_G) (n0 : Nat) (sa : Nat → Nat) (ck : Nat → ClassId) (al : Bool) (Q : pQ) : Array Value → State → Outcome → State → Prop := fun _ st o t => (al = false → pm_same st t) ∧ (∃ (v : Option Value) (S : pS), o = .returned (v.map (pm_v n0 sa)) ∧ Q (.inl v) S ∧ va_P D vwCl (pm_w n0 sa ck S) t.heap) ∧ va_F (fun q => n0 ≤ q) st t
def pm_XC (D : va_G) (n0 : Nat) (sa : Nat → Nat) (ck : Nat → ClassId) (Q : pQ) : String → State → State → Prop := fun E st t => (∃ S : pS, Q (.inr E) S ∧ va_P D vwCl (pm_w n0 sa ck S) t.heap) ∧ va_F (fun q => n0 ≤ q) st t
/-- what the pure machine's step is shown of -/
def pm_X (p : Program) (l : Launch) (e : Env) (R : Room) (s : State) (m : MethodId) (args : Array Value) (below : List Frame) (meth : Method) (c : Code) (D : va_G) (n0 : Nat) (sa : Nat → Nat) (ck : Nat → ClassId) (nL mc ms : Nat) (al : Bool) (Q : pQ) : pF := fun pc ls st uc us S =>
  ∀ (lsA : Array Slot) (H : Heap) (locs : List Loc), pm_lr n0 sa lsA nL ls → va_P D vwCl (pm_w n0 sa ck S) H → va_S (fun q => n0 ≤ q) s.heap H locs →
    W p l e R s m args below meth c H locs uc us (vx_MQ below (pm_Qc D n0 sa ck al Q) (pm_XC D n0 sa ck Q) args s mc ms (fun q => n0 ≤ q)) (F0 m pc lsA (st.map (pm_v n0 sa)))
def pm_okF (own : String) (Ts : List Cond) (ini : Bool) (i ci k : Nat) : Prop := ∃ (C' : String) (T : u_T) (N : Nat), vwCl[ci]? = some (C', T, N) ∧ k < N ∧ Cond.fieldLink own i (T k).1 (T k).2.1 (T k).2.2.1 ∈ Ts ∧ (ini = true → (T k).2.2.2 = true → (T k).1 = own)
def pm_okC (Ts : List Cond) : Prop := ∀ (ci : Nat) (C' : String) (T : u_T) (N : Nat), vwCl[ci]? = some (C', T, N) → (∀ w ∈ u_ws C' T N, w ∈ Ts) ∧ ∃ ty0 : Nat → FieldType, (∀ k, k < N → parseFieldDescriptor (T k).2.2.1 = some (ty0 k)) ∧ ∀ a, a < N → ∀ b, b < N → a ≠ b → (T a).2.1 ≠ (T b).2.1
section PMS
variable {p : Program} {l : Launch} {e : Env} {R : Room} {s : State} {m : MethodId} {args : Array Value} {below : List Frame} {meth : Method} {c : Code} {D : va_G} {n0 : Nat} {sa : Nat → Nat} {ck : Nat → ClassId} {nL mc ms : Nat} {al : Bool} {Q : pQ} {C : pC} {cc : ByteArray} {own : String} {Ts : List Cond} {G : State → Prop}
theorem so_iconst (B : pm_B p s m args meth c D ck n0 C cc nL own Ts G) {pc tg : Nat} {ls : pL} {st : List Value} {uc us : Nat} {S : pS} {n : Int} (hd : pm_okI cc pc (.iconst n) tg) (h : pm_X p l e R s m args below meth c D n0 sa ck nL mc ms al Q (pc + 1) ls (.int (Int32.ofInt n) :: st) uc us S) : pm_X p l e R s m args below meth c D n0 sa ck nL mc ms al Q pc ls st uc us S := by
  intro lsA H locs hl hP hS
  exact lv_iconst B.1 B.2.1 (hd.d rfl) rfl (h lsA H locs hl hP hS)
theorem so_iload (B : pm_B p s m args meth c D ck n0 C cc nL own Ts G) {pc tg : Nat} {ls : pL} {st : List Value} {uc us : Nat} {S : pS} {i : Nat} (hd : pm_okI cc pc (.iload i) tg) (h : pm_gi ls i (fun x => pm_X p l e R s m args below meth c D n0 sa ck nL mc ms al Q (pc + 2) ls (.int x :: st) uc us S)) : pm_X p l e R s m args below meth c D n0 sa ck nL mc ms al Q pc ls st uc us S := by
  intro lsA H locs hl hP hS
  obtain ⟨x, hg, h⟩ := pm_gi_e h
  exact lv_iload B.1 B.2.1 (hd.d rfl) (hl.2.2.2 _ _ hg) (h lsA H locs hl hP hS)
theorem so_iadd (B : pm_B p s m args meth c D ck n0 C cc nL own Ts G) {pc tg : Nat} {ls : pL} {st : List Value} {uc us : Nat} {S : pS} (hd : pm_okI cc pc .iadd tg) (h : pm_ii st (fun x y r => pm_X p l e R s m args below meth c D n0 sa ck nL mc ms al Q (pc + 1) ls (.int (x + y) :: r) uc us S)) : pm_X p l e R s m args below meth c D n0 sa ck nL mc ms al Q pc ls st uc us S := by
  intro lsA H locs hl hP hS
  obtain ⟨x, y, r, rfl, h⟩ := pm_ii_e h
  exact lv_iadd B.1 B.2.1 (hd.d rfl) (h lsA H locs hl hP hS)
theorem so_istore (B : pm_B p s m args meth c D ck n0 C cc nL own Ts G) {pc tg : Nat} {ls : pL} {st : List Value} {uc us : Nat} {S : pS} {i : Nat} (hd : pm_okI cc pc (.istore i) tg) (h : pm_i st (fun x r => i < ls.length ∧ pm_X p l e R s m args below meth c D n0 sa ck nL mc ms al Q (pc + 2) (pm_set ls i (.int x)) r uc us S)) : pm_X p l e R s m args below meth c D n0 sa ck nL mc ms al Q pc ls st uc us S := by
  intro lsA H locs hl hP hS
  obtain ⟨x, r, rfl, hi, h⟩ := pm_i_e h
  exact lv_istore B.1 B.2.1 (hd.d rfl) (pm_lr_has hl) (hl.1 ▸ hi) rfl (fun ls' h' => h ls' H locs (pm_lr_set1 (v := .int x) rfl hl.1 h') hP hS)
theorem so_getfield (B : pm_B p s m args meth c D ck n0 C cc nL own Ts G) (hC : pm_okC Ts) {pc tg : Nat} {ls : pL} {st : List Value} {uc us : Nat} {S : pS} {i ci k : Nat} (hd : pm_okI cc pc (.getfield i) tg) (hf : pm_okF own Ts (pc_ini C) i ci k) (h : pm_r st (fun a r => pm_ob S a ci (fun fs => pm_o (fs[k]?) (fun v => pm_X p l e R s m args below meth c D n0 sa ck nL mc ms al Q (pc + 3) ls (v :: r) uc us S)))) : pm_X p l e R s m args below meth c D n0 sa ck nL mc ms al Q pc ls st uc us S := by
  intro lsA H locs hl hP hS
  obtain ⟨a, r, rfl, h⟩ := pm_r_e h
  obtain ⟨ha, fs, hfs, h⟩ := pm_ob_e h
  obtain ⟨v, hv, h⟩ := pm_o_e h
  obtain ⟨hx, hb, hml, hown, hts, hr, hlocks, hex, hini, hK, hn0, hG⟩ := B
  obtain ⟨C', T, N, hc, hk, hlink, -⟩ := hf
  exact va_get (D := D) (ci := ci) (v := pm_v n0 sa v) (C := C') (T := T) (N := N) (fs := fs.map (pm_v n0 sa)) hx hb hts (hC _ _ _ _ hc).1 hown hK hP a (by rw [pm_w_get ha, hfs]; rfl) hc k hk (hts _ hlink) (fun _ h9 => h9) (by rw [List.getElem?_map, hv]; rfl) (hd.d rfl) (h lsA H locs hl hP hS)
theorem so_putfield (B : pm_B p s m args meth c D ck n0 C cc nL own Ts G) (hC : pm_okC Ts) {pc tg : Nat} {ls : pL} {st : List Value} {uc us : Nat} {S : pS} {i ci k : Nat} (hd : pm_okI cc pc (.putfield i) tg) (hf : pm_okF own Ts (pc_ini C) i ci k) (h : pm_vr st (fun v a r => pm_ob S a ci (fun fs => k < fs.length ∧ pm_o (pm_ft ci k) (fun t => pm_fit t.1 v = true ∧ (t.2 = true → pc_ini C = true) ∧ pm_X p l e R s m args below meth c D n0 sa ck nL mc ms al Q (pc + 3) ls r uc us (pm_up S a (.inr (ci, fs.set k v))))))) : pm_X p l e R s m args below meth c D n0 sa ck nL mc ms al Q pc ls st uc us S := by
  intro lsA H locs hl hP hS
  obtain ⟨v, a, r, rfl, h⟩ := pm_vr_e h
  obtain ⟨ha, fs, hfs, hkl, h⟩ := pm_ob_e h
  obtain ⟨t, ht, hfit, hfin, h⟩ := pm_o_e h
  obtain ⟨hx, hb, hml, hown, hts, hr, hlocks, hex, hini, hK, hn0, hG⟩ := B
  obtain ⟨C', T, N, hc, hk, hlink, hdecl⟩ := hf
  obtain ⟨hin, ty0, hty, hnm⟩ := hC _ _ _ _ hc
  unfold pm_ft at ht
  rw [hc] at ht
  dsimp only at ht
  rw [if_pos hk, hty k hk] at ht
  cases ht
  have e1 : (pm_w n0 sa ck S)[a]? = some (n0 + a, .inr (ci, fs.map (pm_v n0 sa))) := by rw [pm_w_get ha, hfs]; rfl
  have e2 : (pm_w n0 sa ck S).set a (n0 + a, .inr (ci, (fs.map (pm_v n0 sa)).set k (pm_v n0 sa v))) = pm_w n0 sa ck (pm_up S a (.inr (ci, fs.set k v))) := by
    rw [← pm_w_set]
    show _ = (pm_w n0 sa ck S).set a (n0 + a, .inr (ci, (fs.set k v).map (pm_v n0 sa)))
    rw [List.map_set]
  obtain ⟨f1, f2⟩ := pm_fit_ok (n0 := n0) (sa := sa) hfit
  cases hfb : (T k).2.2.2 with
  | false =>
    refine va_put (D := D) (ci := ci) (v := pm_v n0 sa v) (ty := ty0 k) (C := C') (T := T) (N := N) (fs := fs.map (pm_v n0 sa)) hx hb hts hin ty0 hty hnm hown hK hP pm_w_D hS a e1 hc k hk (hts _ hlink) (fun _ h9 => h9) hfb (hty k hk) f1 f2 (by rw [List.length_map]; exact hkl) (hd.d rfl) (fun H1 locs1 hP1 _ hS1 => ?_)
    rw [e2] at hP1
    exact h lsA H1 locs1 hl hP1 hS1
  | true =>
    refine va_putF (D := D) (ci := ci) (v := pm_v n0 sa v) (ty := ty0 k) (C := C') (T := T) (N := N) (fs := fs.map (pm_v n0 sa)) hx hb hts hin ty0 hty hnm hown hK hP pm_w_D hS a e1 hc k hk (hts _ hlink) (fun _ h9 => h9) hfb (hini (hfin hfb)) (hdecl (hfin hfb) hfb) (hty k hk) f1 f2 (by rw [List.length_map]; exact hkl) (hd.d rfl) (fun H1 locs1 hP1 _ hS1 => ?_)
    rw [e2] at hP1
    exact h lsA H1 locs1 hl hP1 hS1
theorem so_iaload (B : pm_B p s m args meth c D ck n0 C cc nL own Ts G) {pc tg : Nat} {ls : pL} {st : List Value} {uc us : Nat} {S : pS} (hd : pm_okI cc pc .iaload tg) (h : pm_ir st (fun i a r => pm_ar S a 0 (fun n f => pm_ix i n (pm_X p l e R s m args below meth c D n0 sa ck nL mc ms al Q (pc + 1) ls (.int (f i.toNatClampNeg) :: r) uc us S)))) : pm_X p l e R s m args below meth c D n0 sa ck nL mc ms al Q pc ls st uc us S := by
  intro lsA H locs hl hP hS
  obtain ⟨i, a, r, rfl, h⟩ := pm_ir_e h
  obtain ⟨ha, n, f, hf, hi, h⟩ := pm_ar_e h
  obtain ⟨hx, hb, hml, hown, hts, hr, hlocks, hex, hini, hK, hn0, hG⟩ := B
  exact va_iald (cA := ck 0) (n := n) (f := f) hx hb hK hP a 0 (by rw [pm_w_get ha, hf]; rfl) rfl hi (hd.d rfl) (h lsA H locs hl hP hS)
theorem so_iastore (B : pm_B p s m args meth c D ck n0 C cc nL own Ts G) {pc tg : Nat} {ls : pL} {st : List Value} {uc us : Nat} {S : pS} (hd : pm_okI cc pc .iastore tg) (h : pm_iir st (fun x i a r => pm_ar S a 0 (fun n f => pm_ix i n (pm_X p l e R s m args below meth c D n0 sa ck nL mc ms al Q (pc + 1) ls r uc us (pm_up S a (.inl (0, n, .inl (upd f i.toNatClampNeg x)))))))) : pm_X p l e R s m args below meth c D n0 sa ck nL mc ms al Q pc ls st uc us S := by
  intro lsA H locs hl hP hS
  obtain ⟨x, i, a, r, rfl, h⟩ := pm_iir_e h
  obtain ⟨ha, n, f, hf, hi, h⟩ := pm_ar_e h
  obtain ⟨hx, hb, hml, hown, hts, hr, hlocks, hex, hini, hK, hn0, hG⟩ := B
  refine va_iast (cA := ck 0) (n := n) (f := f) hx hb hK hP pm_w_D hS a 0 (by rw [pm_w_get ha, hf]; rfl) rfl hi (hd.d rfl) (fun H1 locs1 hP1 _ hS1 => ?_)
  exact h lsA H1 locs1 hl ((pm_w_set (n0 := n0) (sa := sa) (ck := ck) (S := S) (i := a) (.inl (0, n, .inl (upd f i.toNatClampNeg x)))) ▸ hP1) hS1
/-- what a body knows of the cells that were there, and of how many there are -/
theorem pm_ends {H : Heap} {locs : List Loc} {uc us : Nat} {Qf : State → Prop} {g : JFrame} (hu : al = false → uc = 0 ∧ us = 0) (k : (al = false → ∀ t : State, t.heap = H → pm_same s t) → W p l e R s m args below meth c H locs uc us Qf g) : W p l e R s m args below meth c H locs uc us Qf g := by
  intro T hT X
  refine k (fun ha t ht => ?_) T hT X
  have h3 : T.heap.size ≤ s.heap.size + uc := X.heapSize
  have h2 : s.heap.size ≤ T.heap.size := X.same.2.1
  have h6 := X.same.2.2.2.2.2
  refine ⟨?_, fun a c0 h0 => ?_⟩
  · rw [ht, ← hT]
    have := (hu ha).1
    omega
  · obtain ⟨c', e1, e2, e3, -⟩ := h6 a c0 h0
    exact ⟨c', by rw [ht, ← hT]; exact e1, e3⟩
theorem so_ireturn (B : pm_B p s m args meth c D ck n0 C cc nL own Ts G) {pc tg : Nat} {ls : pL} {st : List Value} {uc us : Nat} {S : pS} (hu : uc ≤ mc ∧ us ≤ ms) (hd : pm_okI cc pc .ireturn tg) (h : pm_i st (fun x r => r = [] ∧ pm_o (pc_rt C) (fun ty => pm_fit ty (.int x) = true ∧ (al = false → uc = 0 ∧ us = 0) ∧ Q (.inl (some (.int x))) S))) : pm_X p l e R s m args below meth c D n0 sa ck nL mc ms al Q pc ls st uc us S := by
  intro lsA H locs hl hP hS
  obtain ⟨x, r, rfl, h0, h2⟩ := pm_i_e h
  subst h0
  clear h
  obtain ⟨ty, ht, hf, ha, h⟩ := pm_o_e h2
  obtain ⟨hx, hb, hml, hown, hts, hr, hlocks, hex, hini, hK, hn0, hG⟩ := B
  refine pm_ends (al := al) ha (fun hsm => ?_)
  refine W.widen (k := mc) (n := ms) hu.1 hu.2 (vx_ret ?_)
  exact W.zret (v := x) (ty := ty) hx hb (hr.trans ht) (pm_fit_ok (n0 := n0) (sa := sa) hf).1 (fun t ht hW => ⟨fun q => hsm q t ht, ⟨some (.int x), S, rfl, h, by rw [ht]; exact hP⟩, hS.F ht⟩) hS.2.2 (hd.d rfl) hlocks
end PMS
end
section
section PMT
variable {p : Program} {l : Launch} {e : Env} {R : Room} {s : State} {m : MethodId} {args : Array Value} {below : List Frame} {meth : Method} {c : Code} {D : va_G} {n0 : Nat} {sa : Nat → Nat} {ck : Nat → ClassId} {nL mc ms : Nat} {al : Bool} {Q : pQ} {C : pC} {cc : ByteArray} {own : String} {Ts : List Cond} {G : State → Prop}
theorem so_bipush (B : pm_B p s m args meth c D ck n0 C cc nL own Ts G) {pc tg : Nat} {ls : pL} {st : List Value} {uc us : Nat} {S : pS} {n : Int} (hd : pm_okI cc pc (.bipush n) tg) (h : pm_X p l e R s m args below meth c D n0 sa ck nL mc ms al Q (pc + 2) ls (.int (Int8.ofInt n).toInt32 :: st) uc us S) : pm_X p l e R s m args below meth c D n0 sa ck nL mc ms al Q pc ls st uc us S := by
  intro lsA H locs hl hP hS
  exact lv_bipush B.1 B.2.1 (hd.d rfl) rfl (h lsA H locs hl hP hS)
theorem so_sipush (B : pm_B p s m args meth c D ck n0 C cc nL own Ts G) {pc tg : Nat} {ls : pL} {st : List Value} {uc us : Nat} {S : pS} {n : Int} (hd : pm_okI cc pc (.sipush n) tg) (h : pm_X p l e R s m args below meth c D n0 sa ck nL mc ms al Q (pc + 3) ls (.int (Int16.ofInt n).toInt32 :: st) uc us S) : pm_X p l e R s m args below meth c D n0 sa ck nL mc ms al Q pc ls st uc us S := by
  intro lsA H locs hl hP hS
  exact lv_sipush B.1 B.2.1 (hd.d rfl) rfl (h lsA H locs hl hP hS)
theorem so_lconst (B : pm_B p s m args meth c D ck n0 C cc nL own Ts G) {pc tg : Nat} {ls : pL} {st : List Value} {uc us : Nat} {S : pS} {n : Fin 2} (hd : pm_okI cc pc (.lconst n) tg) (h : pm_X p l e R s m args below meth c D n0 sa ck nL mc ms al Q (pc + 1) ls (.long (Int64.ofNat (n : Nat)) :: st) uc us S) : pm_X p l e R s m args below meth c D n0 sa ck nL mc ms al Q pc ls st uc us S := by
  intro lsA H locs hl hP hS
  exact lv_lconst B.1 B.2.1 (hd.d rfl) rfl (h lsA H locs hl hP hS)
theorem so_iload_n (B : pm_B p s m args meth c D ck n0 C cc nL own Ts G) {pc tg : Nat} {ls : pL} {st : List Value} {uc us : Nat} {S : pS} {i : Fin 4} (hd : pm_okI cc pc (.iload_n i) tg) (h : pm_gi ls i (fun x => pm_X p l e R s m args below meth c D n0 sa ck nL mc ms al Q (pc + 1) ls (.int x :: st) uc us S)) : pm_X p l e R s m args below meth c D n0 sa ck nL mc ms al Q pc ls st uc us S := by
  intro lsA H locs hl hP hS
  obtain ⟨x, hg, h⟩ := pm_gi_e h
  exact lv_iload_n B.1 B.2.1 (hd.d rfl) rfl (hl.2.2.2 _ _ hg) (h lsA H locs hl hP hS)
theorem so_lload (B : pm_B p s m args meth c D ck n0 C cc nL own Ts G) {pc tg : Nat} {ls : pL} {st : List Value} {uc us : Nat} {S : pS} {i : Nat} (hd : pm_okI cc pc (.lload i) tg) (h : pm_gl ls i (fun x => pm_X p l e R s m args below meth c D n0 sa ck nL mc ms al Q (pc + 2) ls (.long x :: st) uc us S)) : pm_X p l e R s m args below meth c D n0 sa ck nL mc ms al Q pc ls st uc us S := by
  intro lsA H locs hl hP hS
  obtain ⟨x, hg, h⟩ := pm_gl_e h
  exact lv_lload B.1 B.2.1 (hd.d rfl) (hl.2.2.2 _ _ hg) (h lsA H locs hl hP hS)
theorem so_lload_n (B : pm_B p s m args meth c D ck n0 C cc nL own Ts G) {pc tg : Nat} {ls : pL} {st : List Value} {uc us : Nat} {S : pS} {i : Fin 4} (hd : pm_okI cc pc (.lload_n i) tg) (h : pm_gl ls i (fun x => pm_X p l e R s m args below meth c D n0 sa ck nL mc ms al Q (pc + 1) ls (.long x :: st) uc us S)) : pm_X p l e R s m args below meth c D n0 sa ck nL mc ms al Q pc ls st uc us S := by
  intro lsA H locs hl hP hS
  obtain ⟨x, hg, h⟩ := pm_gl_e h
  exact lv_lload_n B.1 B.2.1 (hd.d rfl) rfl (hl.2.2.2 _ _ hg) (h lsA H locs hl hP hS)
theorem so_aload (B : pm_B p s m args meth c D ck n0 C cc nL own Ts G) {pc tg : Nat} {ls : pL} {st : List Value} {uc us : Nat} {S : pS} {i : Nat} (hd : pm_okI cc pc (.aload i) tg) (h : pm_ga ls i (fun v => pm_X p l e R s m args below meth c D n0 sa ck nL mc ms al Q (pc + 2) ls (v :: st) uc us S)) : pm_X p l e R s m args below meth c D n0 sa ck nL mc ms al Q pc ls st uc us S := by
  intro lsA H locs hl hP hS
  obtain ⟨v, hg, hv, h⟩ := pm_ga_e h
  obtain ⟨a, ea⟩ := pm_v_isr (n0 := n0) (sa := sa) hv
  have h := h lsA H locs hl hP hS
  rw [List.map_cons, ea] at h
  exact lv_aload B.1 B.2.1 (hd.d rfl) (ea ▸ hl.2.2.2 _ _ hg) h
theorem so_astore (B : pm_B p s m args meth c D ck n0 C cc nL own Ts G) {pc tg : Nat} {ls : pL} {st : List Value} {uc us : Nat} {S : pS} {i : Nat} (hd : pm_okI cc pc (.astore i) tg) (h : pm_a st (fun v r => (i : Nat) < ls.length ∧ pm_X p l e R s m args below meth c D n0 sa ck nL mc ms al Q (pc + 2) (pm_set ls i v) r uc us S)) : pm_X p l e R s m args below meth c D n0 sa ck nL mc ms al Q pc ls st uc us S := by
  intro lsA H locs hl hP hS
  obtain ⟨v, r, rfl, hv, hi, h⟩ := pm_a_e h
  obtain ⟨a, ea⟩ := pm_v_isr (n0 := n0) (sa := sa) hv
  have hc : v.category = 1 := by rw [← pm_v_cat n0 sa v, ea]; rfl
  rw [List.map_cons, ea]
  exact lv_astore B.1 B.2.1 (hd.d rfl) (pm_lr_has hl) (hl.1 ▸ hi) rfl (fun ls' h' => h ls' H locs (pm_lr_set1 (v := v) hc hl.1 (ea.symm ▸ h')) hP hS)
theorem so_aload_n (B : pm_B p s m args meth c D ck n0 C cc nL own Ts G) {pc tg : Nat} {ls : pL} {st : List Value} {uc us : Nat} {S : pS} {i : Fin 4} (hd : pm_okI cc pc (.aload_n i) tg) (h : pm_ga ls i (fun v => pm_X p l e R s m args below meth c D n0 sa ck nL mc ms al Q (pc + 1) ls (v :: st) uc us S)) : pm_X p l e R s m args below meth c D n0 sa ck nL mc ms al Q pc ls st uc us S := by
  intro lsA H locs hl hP hS
  obtain ⟨v, hg, hv, h⟩ := pm_ga_e h
  obtain ⟨a, ea⟩ := pm_v_isr (n0 := n0) (sa := sa) hv
  have h := h lsA H locs hl hP hS
  rw [List.map_cons, ea] at h
  exact lv_aload_n B.1 B.2.1 (hd.d rfl) rfl (ea ▸ hl.2.2.2 _ _ hg) h
theorem so_astore_n (B : pm_B p s m args meth c D ck n0 C cc nL own Ts G) {pc tg : Nat} {ls : pL} {st : List Value} {uc us : Nat} {S : pS} {i : Fin 4} (hd : pm_okI cc pc (.astore_n i) tg) (h : pm_a st (fun v r => (i : Nat) < ls.length ∧ pm_X p l e R s m args below meth c D n0 sa ck nL mc ms al Q (pc + 1) (pm_set ls i v) r uc us S)) : pm_X p l e R s m args below meth c D n0 sa ck nL mc ms al Q pc ls st uc us S := by
  intro lsA H locs hl hP hS
  obtain ⟨v, r, rfl, hv, hi, h⟩ := pm_a_e h
  obtain ⟨a, ea⟩ := pm_v_isr (n0 := n0) (sa := sa) hv
  have hc : v.category = 1 := by rw [← pm_v_cat n0 sa v, ea]; rfl
  rw [List.map_cons, ea]
  exact lv_astore_n B.1 B.2.1 (hd.d rfl) rfl (pm_lr_has hl) (hl.1 ▸ hi) rfl (fun ls' h' => h ls' H locs (pm_lr_set1 (v := v) hc hl.1 (ea.symm ▸ h')) hP hS)
theorem so_istore_n (B : pm_B p s m args meth c D ck n0 C cc nL own Ts G) {pc tg : Nat} {ls : pL} {st : List Value} {uc us : Nat} {S : pS} {i : Fin 4} (hd : pm_okI cc pc (.istore_n i) tg) (h : pm_i st (fun x r => (i : Nat) < ls.length ∧ pm_X p l e R s m args below meth c D n0 sa ck nL mc ms al Q (pc + 1) (pm_set ls i (.int x)) r uc us S)) : pm_X p l e R s m args below meth c D n0 sa ck nL mc ms al Q pc ls st uc us S := by
  intro lsA H locs hl hP hS
  obtain ⟨x, r, rfl, hi, h⟩ := pm_i_e h
  exact lv_istore_n B.1 B.2.1 (hd.d rfl) rfl (pm_lr_has hl) (hl.1 ▸ hi) rfl (fun ls' h' => h ls' H locs (pm_lr_set1 (v := .int x) rfl hl.1 h') hP hS)
theorem so_lstore (B : pm_B p s m args meth c D ck n0 C cc nL own Ts G) {pc tg : Nat} {ls : pL} {st : List Value} {uc us : Nat} {S : pS} {i : Nat} (hd : pm_okI cc pc (.lstore i) tg) (h : pm_l st (fun x r => (i : Nat) + 1 < ls.length ∧ pm_X p l e R s m args below meth c D n0 sa ck nL mc ms al Q (pc + 2) (pm_set ls i (.long x)) r uc us S)) : pm_X p l e R s m args below meth c D n0 sa ck nL mc ms al Q pc ls st uc us S := by
  intro lsA H locs hl hP hS
  obtain ⟨x, r, rfl, hi, h⟩ := pm_l_e h
  exact lv_lstore B.1 B.2.1 (hd.d rfl) (pm_lr_has hl) (hl.1 ▸ hi) rfl (fun ls' h' => h ls' H locs (pm_lr_set2 (v := .long x) rfl hl.1 h') hP hS)
theorem so_lstore_n (B : pm_B p s m args meth c D ck n0 C cc nL own Ts G) {pc tg : Nat} {ls : pL} {st : List Value} {uc us : Nat} {S : pS} {i : Fin 4} (hd : pm_okI cc pc (.lstore_n i) tg) (h : pm_l st (fun x r => (i : Nat) + 1 < ls.length ∧ pm_X p l e R s m args below meth c D n0 sa ck nL mc ms al Q (pc + 1) (pm_set ls i (.long x)) r uc us S)) : pm_X p l e R s m args below meth c D n0 sa ck nL mc ms al Q pc ls st uc us S := by
  intro lsA H locs hl hP hS
  obtain ⟨x, r, rfl, hi, h⟩ := pm_l_e h
  exact lv_lstore_n B.1 B.2.1 (hd.d rfl) rfl (pm_lr_has hl) (hl.1 ▸ hi) rfl (fun ls' h' => h ls' H locs (pm_lr_set2 (v := .long x) rfl hl.1 h') hP hS)
theorem so_iinc (B : pm_B p s m args meth c D ck n0 C cc nL own Ts G) {pc tg : Nat} {ls : pL} {st : List Value} {uc us : Nat} {S : pS} {i : Nat} {n : Int} (hd : pm_okI cc pc (.iinc i n) tg) (h : pm_gi ls i (fun x => i < ls.length ∧ pm_X p l e R s m args below meth c D n0 sa ck nL mc ms al Q (pc + 3) (pm_set ls i (.int (x + Int32.ofInt n))) st uc us S)) : pm_X p l e R s m args below meth c D n0 sa ck nL mc ms al Q pc ls st uc us S := by
  intro lsA H locs hl hP hS
  obtain ⟨x, hg, hi, h⟩ := pm_gi_e h
  obtain ⟨k, hk⟩ := List.getElem?_of_mem (pm_lp_mem (n0 := n0) (sa := sa) hl.1 hg)
  exact lv_iinc (k := k) B.1 B.2.1 (hd.d rfl) (pm_lr_has hl) hk rfl (hl.1 ▸ hi) rfl (fun ls' h' => h ls' H locs (pm_lr_set1 (v := .int (x + Int32.ofInt n)) rfl hl.1 h') hP hS)
theorem so_isub (B : pm_B p s m args meth c D ck n0 C cc nL own Ts G) {pc tg : Nat} {ls : pL} {st : List Value} {uc us : Nat} {S : pS}  (hd : pm_okI cc pc (.isub) tg) (h : pm_ii st (fun x y r => pm_X p l e R s m args below meth c D n0 sa ck nL mc ms al Q (pc + 1) ls (.int (x - y) :: r) uc us S)) : pm_X p l e R s m args below meth c D n0 sa ck nL mc ms al Q pc ls st uc us S := by
  intro lsA H locs hl hP hS
  obtain ⟨x, y, r, rfl, h⟩ := pm_ii_e h
  exact lv_isub B.1 B.2.1 (hd.d rfl) (h lsA H locs hl hP hS)
theorem so_imul (B : pm_B p s m args meth c D ck n0 C cc nL own Ts G) {pc tg : Nat} {ls : pL} {st : List Value} {uc us : Nat} {S : pS}  (hd : pm_okI cc pc (.imul) tg) (h : pm_ii st (fun x y r => pm_X p l e R s m args below meth c D n0 sa ck nL mc ms al Q (pc + 1) ls (.int (x * y) :: r) uc us S)) : pm_X p l e R s m args below meth c D n0 sa ck nL mc ms al Q pc ls st uc us S := by
  intro lsA H locs hl hP hS
  obtain ⟨x, y, r, rfl, h⟩ := pm_ii_e h
  exact lv_imul B.1 B.2.1 (hd.d rfl) (h lsA H locs hl hP hS)
theorem so_iand (B : pm_B p s m args meth c D ck n0 C cc nL own Ts G) {pc tg : Nat} {ls : pL} {st : List Value} {uc us : Nat} {S : pS}  (hd : pm_okI cc pc (.iand) tg) (h : pm_ii st (fun x y r => pm_X p l e R s m args below meth c D n0 sa ck nL mc ms al Q (pc + 1) ls (.int (x &&& y) :: r) uc us S)) : pm_X p l e R s m args below meth c D n0 sa ck nL mc ms al Q pc ls st uc us S := by
  intro lsA H locs hl hP hS
  obtain ⟨x, y, r, rfl, h⟩ := pm_ii_e h
  exact lv_iand B.1 B.2.1 (hd.d rfl) (h lsA H locs hl hP hS)
theorem so_ior (B : pm_B p s m args meth c D ck n0 C cc nL own Ts G) {pc tg : Nat} {ls : pL} {st : List Value} {uc us : Nat} {S : pS}  (hd : pm_okI cc pc (.ior) tg) (h : pm_ii st (fun x y r => pm_X p l e R s m args below meth c D n0 sa ck nL mc ms al Q (pc + 1) ls (.int (x ||| y) :: r) uc us S)) : pm_X p l e R s m args below meth c D n0 sa ck nL mc ms al Q pc ls st uc us S := by
  intro lsA H locs hl hP hS
  obtain ⟨x, y, r, rfl, h⟩ := pm_ii_e h
  exact lv_ior B.1 B.2.1 (hd.d rfl) (h lsA H locs hl hP hS)
theorem so_ixor (B : pm_B p s m args meth c D ck n0 C cc nL own Ts G) {pc tg : Nat} {ls : pL} {st : List Value} {uc us : Nat} {S : pS}  (hd : pm_okI cc pc (.ixor) tg) (h : pm_ii st (fun x y r => pm_X p l e R s m args below meth c D n0 sa ck nL mc ms al Q (pc + 1) ls (.int (x ^^^ y) :: r) uc us S)) : pm_X p l e R s m args below meth c D n0 sa ck nL mc ms al Q pc ls st uc us S := by
  intro lsA H locs hl hP hS
  obtain ⟨x, y, r, rfl, h⟩ := pm_ii_e h
  exact lv_ixor B.1 B.2.1 (hd.d rfl) (h lsA H locs hl hP hS)
theorem so_ishl (B : pm_B p s m args meth c D ck n0 C cc nL own Ts G) {pc tg : Nat} {ls : pL} {st : List Value} {uc us : Nat} {S : pS}  (hd : pm_okI cc pc (.ishl) tg) (h : pm_ii st (fun x y r => pm_X p l e R s m args below meth c D n0 sa ck nL mc ms al Q (pc + 1) ls (.int (x <<< (y &&& 31)) :: r) uc us S)) : pm_X p l e R s m args below meth c D n0 sa ck nL mc ms al Q pc ls st uc us S := by
  intro lsA H locs hl hP hS
  obtain ⟨x, y, r, rfl, h⟩ := pm_ii_e h
  exact lv_ishl B.1 B.2.1 (hd.d rfl) (h lsA H locs hl hP hS)
theorem so_ishr (B : pm_B p s m args meth c D ck n0 C cc nL own Ts G) {pc tg : Nat} {ls : pL} {st : List Value} {uc us : Nat} {S : pS}  (hd : pm_okI cc pc (.ishr) tg) (h : pm_ii st (fun x y r => pm_X p l e R s m args below meth c D n0 sa ck nL mc ms al Q (pc + 1) ls (.int (x >>> (y &&& 31)) :: r) uc us S)) : pm_X p l e R s m args below meth c D n0 sa ck nL mc ms al Q pc ls st uc us S := by
  intro lsA H locs hl hP hS
  obtain ⟨x, y, r, rfl, h⟩ := pm_ii_e h
  exact lv_ishr B.1 B.2.1 (hd.d rfl) (h lsA H locs hl hP hS)
theorem so_iushr (B : pm_B p s m args meth c D ck n0 C cc nL own Ts G) {pc tg : Nat} {ls : pL} {st : List Value} {uc us : Nat} {S : pS}  (hd : pm_okI cc pc (.iushr) tg) (h : pm_ii st (fun x y r => pm_X p l e R s m args below meth c D n0 sa ck nL mc ms al Q (pc + 1) ls (.int (x.toUInt32 >>> (y.toUInt32 &&& Int32.toUInt32 31)).toInt32 :: r) uc us S)) : pm_X p l e R s m args below meth c D n0 sa ck nL mc ms al Q pc ls st uc us S := by
  intro lsA H locs hl hP hS
  obtain ⟨x, y, r, rfl, h⟩ := pm_ii_e h
  exact lv_iushr B.1 B.2.1 (hd.d rfl) rfl (h lsA H locs hl hP hS)
theorem so_idiv (B : pm_B p s m args meth c D ck n0 C cc nL own Ts G) {pc tg : Nat} {ls : pL} {st : List Value} {uc us : Nat} {S : pS}  (hd : pm_okI cc pc (.idiv) tg) (h : pm_ii st (fun x y r => ¬ y = 0 ∧ pm_X p l e R s m args below meth c D n0 sa ck nL mc ms al Q (pc + 1) ls (.int (x / y) :: r) uc us S)) : pm_X p l e R s m args below meth c D n0 sa ck nL mc ms al Q pc ls st uc us S := by
  intro lsA H locs hl hP hS
  obtain ⟨x, y, r, rfl, hy, h⟩ := pm_ii_e h
  exact lv_idiv B.1 B.2.1 (hd.d rfl) hy (h lsA H locs hl hP hS)
theorem so_irem (B : pm_B p s m args meth c D ck n0 C cc nL own Ts G) {pc tg : Nat} {ls : pL} {st : List Value} {uc us : Nat} {S : pS}  (hd : pm_okI cc pc (.irem) tg) (h : pm_ii st (fun x y r => ¬ y = 0 ∧ pm_X p l e R s m args below meth c D n0 sa ck nL mc ms al Q (pc + 1) ls (.int (x - x / y * y) :: r) uc us S)) : pm_X p l e R s m args below meth c D n0 sa ck nL mc ms al Q pc ls st uc us S := by
  intro lsA H locs hl hP hS
  obtain ⟨x, y, r, rfl, hy, h⟩ := pm_ii_e h
  exact lv_irem B.1 B.2.1 (hd.d rfl) hy (h lsA H locs hl hP hS)
theorem so_ladd (B : pm_B p s m args meth c D ck n0 C cc nL own Ts G) {pc tg : Nat} {ls : pL} {st : List Value} {uc us : Nat} {S : pS}  (hd : pm_okI cc pc (.ladd) tg) (h : pm_ll st (fun x y r => pm_X p l e R s m args below meth c D n0 sa ck nL mc ms al Q (pc + 1) ls (.long (x + y) :: r) uc us S)) : pm_X p l e R s m args below meth c D n0 sa ck nL mc ms al Q pc ls st uc us S := by
  intro lsA H locs hl hP hS
  obtain ⟨x, y, r, rfl, h⟩ := pm_ll_e h
  exact lv_ladd B.1 B.2.1 (hd.d rfl) (h lsA H locs hl hP hS)
theorem so_lsub (B : pm_B p s m args meth c D ck n0 C cc nL own Ts G) {pc tg : Nat} {ls : pL} {st : List Value} {uc us : Nat} {S : pS}  (hd : pm_okI cc pc (.lsub) tg) (h : pm_ll st (fun x y r => pm_X p l e R s m args below meth c D n0 sa ck nL mc ms al Q (pc + 1) ls (.long (x - y) :: r) uc us S)) : pm_X p l e R s m args below meth c D n0 sa ck nL mc ms al Q pc ls st uc us S := by
  intro lsA H locs hl hP hS
  obtain ⟨x, y, r, rfl, h⟩ := pm_ll_e h
  exact lv_lsub B.1 B.2.1 (hd.d rfl) (h lsA H locs hl hP hS)
theorem so_land (B : pm_B p s m args meth c D ck n0 C cc nL own Ts G) {pc tg : Nat} {ls : pL} {st : List Value} {uc us : Nat} {S : pS}  (hd : pm_okI cc pc (.land) tg) (h : pm_ll st (fun x y r => pm_X p l e R s m args below meth c D n0 sa ck nL mc ms al Q (pc + 1) ls (.long (x &&& y) :: r) uc us S)) : pm_X p l e R s m args below meth c D n0 sa ck nL mc ms al Q pc ls st uc us S := by
  intro lsA H locs hl hP hS
  obtain ⟨x, y, r, rfl, h⟩ := pm_ll_e h
  exact lv_land B.1 B.2.1 (hd.d rfl) (h lsA H locs hl hP hS)
theorem so_lor (B : pm_B p s m args meth c D ck n0 C cc nL own Ts G) {pc tg : Nat} {ls : pL} {st : List Value} {uc us : Nat} {S : pS}  (hd : pm_okI cc pc (.lor) tg) (h : pm_ll st (fun x y r => pm_X p l e R s m args below meth c D n0 sa ck nL mc ms al Q (pc + 1) ls (.long (x ||| y) :: r) uc us S)) : pm_X p l e R s m args below meth c D n0 sa ck nL mc ms al Q pc ls st uc us S := by
  intro lsA H locs hl hP hS
  obtain ⟨x, y, r, rfl, h⟩ := pm_ll_e h
  exact lv_lor B.1 B.2.1 (hd.d rfl) (h lsA H locs hl hP hS)
theorem so_lxor (B : pm_B p s m args meth c D ck n0 C cc nL own Ts G) {pc tg : Nat} {ls : pL} {st : List Value} {uc us : Nat} {S : pS}  (hd : pm_okI cc pc (.lxor) tg) (h : pm_ll st (fun x y r => pm_X p l e R s m args below meth c D n0 sa ck nL mc ms al Q (pc + 1) ls (.long (x ^^^ y) :: r) uc us S)) : pm_X p l e R s m args below meth c D n0 sa ck nL mc ms al Q pc ls st uc us S := by
  intro lsA H locs hl hP hS
  obtain ⟨x, y, r, rfl, h⟩ := pm_ll_e h
  exact lv_lxor B.1 B.2.1 (hd.d rfl) (h lsA H locs hl hP hS)
theorem so_lcmp (B : pm_B p s m args meth c D ck n0 C cc nL own Ts G) {pc tg : Nat} {ls : pL} {st : List Value} {uc us : Nat} {S : pS}  (hd : pm_okI cc pc (.lcmp) tg) (h : pm_ll st (fun x y r => pm_X p l e R s m args below meth c D n0 sa ck nL mc ms al Q (pc + 1) ls (.int (lg_cmp x y) :: r) uc us S)) : pm_X p l e R s m args below meth c D n0 sa ck nL mc ms al Q pc ls st uc us S := by
  intro lsA H locs hl hP hS
  obtain ⟨x, y, r, rfl, h⟩ := pm_ll_e h
  exact W.lcmp B.1 B.2.1 (hd.d rfl) (h lsA H locs hl hP hS)
theorem so_lshl (B : pm_B p s m args meth c D ck n0 C cc nL own Ts G) {pc tg : Nat} {ls : pL} {st : List Value} {uc us : Nat} {S : pS}  (hd : pm_okI cc pc (.lshl) tg) (h : pm_li st (fun x y r => pm_X p l e R s m args below meth c D n0 sa ck nL mc ms al Q (pc + 1) ls (.long (x <<< (y.toInt64 &&& 63)) :: r) uc us S)) : pm_X p l e R s m args below meth c D n0 sa ck nL mc ms al Q pc ls st uc us S := by
  intro lsA H locs hl hP hS
  obtain ⟨x, y, r, rfl, h⟩ := pm_li_e h
  exact lv_lshl B.1 B.2.1 (hd.d rfl) rfl (h lsA H locs hl hP hS)
theorem so_lushr (B : pm_B p s m args meth c D ck n0 C cc nL own Ts G) {pc tg : Nat} {ls : pL} {st : List Value} {uc us : Nat} {S : pS}  (hd : pm_okI cc pc (.lushr) tg) (h : pm_li st (fun x y r => pm_X p l e R s m args below meth c D n0 sa ck nL mc ms al Q (pc + 1) ls (.long (x.toUInt64 >>> (y.toInt64.toUInt64 &&& Int64.toUInt64 63)).toInt64 :: r) uc us S)) : pm_X p l e R s m args below meth c D n0 sa ck nL mc ms al Q pc ls st uc us S := by
  intro lsA H locs hl hP hS
  obtain ⟨x, y, r, rfl, h⟩ := pm_li_e h
  exact lv_lushr B.1 B.2.1 (hd.d rfl) rfl (h lsA H locs hl hP hS)
theorem so_i2l (B : pm_B p s m args meth c D ck n0 C cc nL own Ts G) {pc tg : Nat} {ls : pL} {st : List Value} {uc us : Nat} {S : pS}  (hd : pm_okI cc pc (.i2l) tg) (h : pm_i st (fun x r => pm_X p l e R s m args below meth c D n0 sa ck nL mc ms al Q (pc + 1) ls (.long x.toInt64 :: r) uc us S)) : pm_X p l e R s m args below meth c D n0 sa ck nL mc ms al Q pc ls st uc us S := by
  intro lsA H locs hl hP hS
  obtain ⟨x, r, rfl, h⟩ := pm_i_e h
  exact lv_i2l B.1 B.2.1 (hd.d rfl) rfl (h lsA H locs hl hP hS)
theorem so_l2i (B : pm_B p s m args meth c D ck n0 C cc nL own Ts G) {pc tg : Nat} {ls : pL} {st : List Value} {uc us : Nat} {S : pS}  (hd : pm_okI cc pc (.l2i) tg) (h : pm_l st (fun x r => pm_X p l e R s m args below meth c D n0 sa ck nL mc ms al Q (pc + 1) ls (.int x.toInt32 :: r) uc us S)) : pm_X p l e R s m args below meth c D n0 sa ck nL mc ms al Q pc ls st uc us S := by
  intro lsA H locs hl hP hS
  obtain ⟨x, r, rfl, h⟩ := pm_l_e h
  exact lv_l2i B.1 B.2.1 (hd.d rfl) rfl (h lsA H locs hl hP hS)
theorem so_i2c (B : pm_B p s m args meth c D ck n0 C cc nL own Ts G) {pc tg : Nat} {ls : pL} {st : List Value} {uc us : Nat} {S : pS}  (hd : pm_okI cc pc (.i2c) tg) (h : pm_i st (fun x r => pm_X p l e R s m args below meth c D n0 sa ck nL mc ms al Q (pc + 1) ls (.int (x.toUInt32 % 65536).toInt32 :: r) uc us S)) : pm_X p l e R s m args below meth c D n0 sa ck nL mc ms al Q pc ls st uc us S := by
  intro lsA H locs hl hP hS
  obtain ⟨x, r, rfl, h⟩ := pm_i_e h
  exact lv_i2c B.1 B.2.1 (hd.d rfl) rfl (h lsA H locs hl hP hS)
theorem so_dup (B : pm_B p s m args meth c D ck n0 C cc nL own Ts G) {pc tg : Nat} {ls : pL} {st : List Value} {uc us : Nat} {S : pS}  (hd : pm_okI cc pc (.dup) tg) (h : pm_dup st (fun v r => pm_X p l e R s m args below meth c D n0 sa ck nL mc ms al Q (pc + 1) ls (v :: v :: r) uc us S)) : pm_X p l e R s m args below meth c D n0 sa ck nL mc ms al Q pc ls st uc us S := by
  intro lsA H locs hl hP hS
  obtain ⟨v, r, rfl, hv, h⟩ := pm_dup_e h
  exact lv_dup B.1 B.2.1 (hd.d rfl) ((pm_v_cat n0 sa v).trans hv) (h lsA H locs hl hP hS)
theorem so_pop (B : pm_B p s m args meth c D ck n0 C cc nL own Ts G) {pc tg : Nat} {ls : pL} {st : List Value} {uc us : Nat} {S : pS}  (hd : pm_okI cc pc (.pop) tg) (h : pm_dup st (fun _ r => pm_X p l e R s m args below meth c D n0 sa ck nL mc ms al Q (pc + 1) ls r uc us S)) : pm_X p l e R s m args below meth c D n0 sa ck nL mc ms al Q pc ls st uc us S := by
  intro lsA H locs hl hP hS
  obtain ⟨v, r, rfl, hv, h⟩ := pm_dup_e h
  exact lv_pop B.1 B.2.1 (hd.d rfl) ((pm_v_cat n0 sa v).trans hv) (h lsA H locs hl hP hS)
theorem so_dup2 (B : pm_B p s m args meth c D ck n0 C cc nL own Ts G) {pc tg : Nat} {ls : pL} {st : List Value} {uc us : Nat} {S : pS}  (hd : pm_okI cc pc (.dup2) tg) (h : pm_dup2 st (fun v w r => pm_X p l e R s m args below meth c D n0 sa ck nL mc ms al Q (pc + 1) ls (v :: w :: v :: w :: r) uc us S)) : pm_X p l e R s m args below meth c D n0 sa ck nL mc ms al Q pc ls st uc us S := by
  intro lsA H locs hl hP hS
  obtain ⟨v, w, r, rfl, hv, hw, h⟩ := pm_dup2_e h
  exact lv_dup2_11 B.1 B.2.1 (hd.d rfl) ((pm_v_cat n0 sa v).trans hv) ((pm_v_cat n0 sa w).trans hw) (h lsA H locs hl hP hS)
theorem so_goto (B : pm_B p s m args meth c D ck n0 C cc nL own Ts G) {pc tg : Nat} {ls : pL} {st : List Value} {uc us : Nat} {S : pS} {o : Int} (hd : pm_okI cc pc (.goto o) tg) (h : pm_X p l e R s m args below meth c D n0 sa ck nL mc ms al Q tg ls st uc us S) : pm_X p l e R s m args below meth c D n0 sa ck nL mc ms al Q pc ls st uc us S := by
  intro lsA H locs hl hP hS
  exact lv_goto (tgt := tg) B.1 B.2.1 (hd.d rfl) (hd.2 _ rfl) (h lsA H locs hl hP hS)
theorem so_ifCond (B : pm_B p s m args meth c D ck n0 C cc nL own Ts G) {pc tg : Nat} {ls : pL} {st : List Value} {uc us : Nat} {S : pS} {o : Int} {cd : Jvm.ClassFile.Cond} (hd : pm_okI cc pc (.ifCond cd o) tg) (h : pm_i st (fun x r => pm_cd cd x 0 (pm_X p l e R s m args below meth c D n0 sa ck nL mc ms al Q tg ls r uc us S) (pm_X p l e R s m args below meth c D n0 sa ck nL mc ms al Q (pc + 3) ls r uc us S))) : pm_X p l e R s m args below meth c D n0 sa ck nL mc ms al Q pc ls st uc us S := by
  intro lsA H locs hl hP hS
  obtain ⟨x, r, rfl, h⟩ := pm_i_e h
  cases cd with
  | eq => exact lv_if_eq (tgt := tg) B.1 B.2.1 (hd.d rfl) (hd.2 _ rfl) (fun q => h.1 q lsA H locs hl hP hS) (fun q => h.2 q lsA H locs hl hP hS)
  | ne => exact lv_if_ne (tgt := tg) B.1 B.2.1 (hd.d rfl) (hd.2 _ rfl) (fun q => h.1 q lsA H locs hl hP hS) (fun q => h.2 q lsA H locs hl hP hS)
  | lt => exact lv_if_lt (tgt := tg) B.1 B.2.1 (hd.d rfl) (hd.2 _ rfl) (fun q => h.1 q lsA H locs hl hP hS) (fun q => h.2 q lsA H locs hl hP hS)
  | ge => exact lv_if_ge (tgt := tg) B.1 B.2.1 (hd.d rfl) (hd.2 _ rfl) (fun q => h.1 q lsA H locs hl hP hS) (fun q => h.2 q lsA H locs hl hP hS)
  | gt => exact lv_if_gt (tgt := tg) B.1 B.2.1 (hd.d rfl) (hd.2 _ rfl) (fun q => h.1 q lsA H locs hl hP hS) (fun q => h.2 q lsA H locs hl hP hS)
  | le => exact lv_if_le (tgt := tg) B.1 B.2.1 (hd.d rfl) (hd.2 _ rfl) (fun q => h.1 q lsA H locs hl hP hS) (fun q => h.2 q lsA H locs hl hP hS)
theorem so_if_icmp (B : pm_B p s m args meth c D ck n0 C cc nL own Ts G) {pc tg : Nat} {ls : pL} {st : List Value} {uc us : Nat} {S : pS} {o : Int} {cd : Jvm.ClassFile.Cond} (hd : pm_okI cc pc (.if_icmp cd o) tg) (h : pm_ii st (fun x y r => pm_cd cd x y (pm_X p l e R s m args below meth c D n0 sa ck nL mc ms al Q tg ls r uc us S) (pm_X p l e R s m args below meth c D n0 sa ck nL mc ms al Q (pc + 3) ls r uc us S))) : pm_X p l e R s m args below meth c D n0 sa ck nL mc ms al Q pc ls st uc us S := by
  intro lsA H locs hl hP hS
  obtain ⟨x, y, r, rfl, h⟩ := pm_ii_e h
  cases cd with
  | eq => exact lv_icmp_eq (tgt := tg) B.1 B.2.1 (hd.d rfl) (hd.2 _ rfl) (fun q => h.1 q lsA H locs hl hP hS) (fun q => h.2 q lsA H locs hl hP hS)
  | ne => exact lv_icmp_ne (tgt := tg) B.1 B.2.1 (hd.d rfl) (hd.2 _ rfl) (fun q => h.1 q lsA H locs hl hP hS) (fun q => h.2 q lsA H locs hl hP hS)
  | lt => exact lv_icmp_lt (tgt := tg) B.1 B.2.1 (hd.d rfl) (hd.2 _ rfl) (fun q => h.1 q lsA H locs hl hP hS) (fun q => h.2 q lsA H locs hl hP hS)
  | ge => exact lv_icmp_ge (tgt := tg) B.1 B.2.1 (hd.d rfl) (hd.2 _ rfl) (fun q => h.1 q lsA H locs hl hP hS) (fun q => h.2 q lsA H locs hl hP hS)
  | gt => exact lv_icmp_gt (tgt := tg) B.1 B.2.1 (hd.d rfl) (hd.2 _ rfl) (fun q => h.1 q lsA H locs hl hP hS) (fun q => h.2 q lsA H locs hl hP hS)
  | le => exact lv_icmp_le (tgt := tg) B.1 B.2.1 (hd.d rfl) (hd.2 _ rfl) (fun q => h.1 q lsA H locs hl hP hS) (fun q => h.2 q lsA H locs hl hP hS)
theorem so_tableswitch (B : pm_B p s m args meth c D ck n0 C cc nL own Ts G) {pc tg : Nat} {ls : pL} {st : List Value} {uc us : Nat} {S : pS} {df lo hi : Int} {os : Array Int} (hd : pm_okI cc pc (.tableswitch df lo hi os) tg) (h : pm_i st (fun x r => pm_sw x.toInt lo hi pc df os (fun t => pm_X p l e R s m args below meth c D n0 sa ck nL mc ms al Q t ls r uc us S))) : pm_X p l e R s m args below meth c D n0 sa ck nL mc ms al Q pc ls st uc us S := by
  intro lsA H locs hl hP hS
  obtain ⟨x, r, rfl, h2⟩ := pm_i_e h
  clear h
  have h := h2
  clear h2
  obtain ⟨⟨len, hd, -⟩, -⟩ := hd
  unfold pm_sw at h
  split at h
  · exact lv_tableOut (tgt := ((pc : Int) + df).toNat) B.1 B.2.1 hd ‹_› (by omega) (h.2 lsA H locs hl hP hS)
  · rename_i hn
    obtain ⟨o, ho, h0, h⟩ := pm_o_e h
    exact lv_tableIn (tgt := ((pc : Int) + o).toNat) B.1 B.2.1 hd (fun q => hn (Or.inl q)) (fun q => hn (Or.inr q)) ho (by omega) (h lsA H locs hl hP hS)
theorem so_caload (B : pm_B p s m args meth c D ck n0 C cc nL own Ts G) {pc tg : Nat} {ls : pL} {st : List Value} {uc us : Nat} {S : pS}  (hd : pm_okI cc pc (.caload) tg) (h : pm_ir st (fun i a r => pm_ar S a 2 (fun n f => pm_ix i n (pm_X p l e R s m args below meth c D n0 sa ck nL mc ms al Q (pc + 1) ls (.int (f i.toNatClampNeg) :: r) uc us S)))) : pm_X p l e R s m args below meth c D n0 sa ck nL mc ms al Q pc ls st uc us S := by
  intro lsA H locs hl hP hS
  obtain ⟨i, a, r, rfl, h⟩ := pm_ir_e h
  obtain ⟨ha, n, f, hf, hi, h⟩ := pm_ar_e h
  obtain ⟨hx, hb, hml, hown, hts, hr, hlocks, hex, hini, hK, hn0, hG⟩ := B
  exact va_cald (cA := ck 2) (n := n) (f := f) hx hb hK hP a 2 (by rw [pm_w_get ha, hf]; rfl) rfl hi (hd.d rfl) (h lsA H locs hl hP hS)
theorem so_baload (B : pm_B p s m args meth c D ck n0 C cc nL own Ts G) {pc tg : Nat} {ls : pL} {st : List Value} {uc us : Nat} {S : pS}  (hd : pm_okI cc pc (.baload) tg) (h : pm_ir st (fun i a r => pm_ar S a 3 (fun n f => pm_ix i n (pm_X p l e R s m args below meth c D n0 sa ck nL mc ms al Q (pc + 1) ls (.int (f i.toNatClampNeg) :: r) uc us S)))) : pm_X p l e R s m args below meth c D n0 sa ck nL mc ms al Q pc ls st uc us S := by
  intro lsA H locs hl hP hS
  obtain ⟨i, a, r, rfl, h⟩ := pm_ir_e h
  obtain ⟨ha, n, f, hf, hi, h⟩ := pm_ar_e h
  obtain ⟨hx, hb, hml, hown, hts, hr, hlocks, hex, hini, hK, hn0, hG⟩ := B
  exact va_zald (cA := ck 3) (n := n) (f := f) hx hb hK hP a 3 (by rw [pm_w_get ha, hf]; rfl) rfl hi (hd.d rfl) (h lsA H locs hl hP hS)
theorem so_laload (B : pm_B p s m args meth c D ck n0 C cc nL own Ts G) {pc tg : Nat} {ls : pL} {st : List Value} {uc us : Nat} {S : pS}  (hd : pm_okI cc pc (.laload) tg) (h : pm_ir st (fun i a r => pm_aj S a (fun n f => pm_ix i n (pm_X p l e R s m args below meth c D n0 sa ck nL mc ms al Q (pc + 1) ls (.long (f i.toNatClampNeg) :: r) uc us S)))) : pm_X p l e R s m args below meth c D n0 sa ck nL mc ms al Q pc ls st uc us S := by
  intro lsA H locs hl hP hS
  obtain ⟨i, a, r, rfl, h⟩ := pm_ir_e h
  obtain ⟨ha, n, f, hf, hi, h⟩ := pm_aj_e h
  obtain ⟨hx, hb, hml, hown, hts, hr, hlocks, hex, hini, hK, hn0, hG⟩ := B
  exact va_lald (cA := ck 1) (n := n) (f := f) hx hb hK hP a 1 (by rw [pm_w_get ha, hf]; rfl) rfl hi (hd.d rfl) (h lsA H locs hl hP hS)
theorem so_castore (B : pm_B p s m args meth c D ck n0 C cc nL own Ts G) {pc tg : Nat} {ls : pL} {st : List Value} {uc us : Nat} {S : pS}  (hd : pm_okI cc pc (.castore) tg) (h : pm_iir st (fun x i a r => pm_ar S a 2 (fun n f => pm_ix i n (pm_X p l e R s m args below meth c D n0 sa ck nL mc ms al Q (pc + 1) ls r uc us (pm_up S a (.inl (2, n, .inl (upd f i.toNatClampNeg (vp_nar .char x))))))))) : pm_X p l e R s m args below meth c D n0 sa ck nL mc ms al Q pc ls st uc us S := by
  intro lsA H locs hl hP hS
  obtain ⟨x, i, a, r, rfl, h⟩ := pm_iir_e h
  obtain ⟨ha, n, f, hf, hi, h⟩ := pm_ar_e h
  obtain ⟨hx, hb, hml, hown, hts, hr, hlocks, hex, hini, hK, hn0, hG⟩ := B
  refine va_cast (cA := ck 2) (n := n) (f := f) hx hb hK hP pm_w_D hS a 2 (by rw [pm_w_get ha, hf]; rfl) rfl hi (hd.d rfl) (fun H1 locs1 hP1 _ hS1 => ?_)
  exact h lsA H1 locs1 hl ((pm_w_set (n0 := n0) (sa := sa) (ck := ck) (S := S) (i := a) (.inl (2, n, .inl (upd f i.toNatClampNeg (vp_nar .char x))))) ▸ hP1) hS1
theorem so_bastore (B : pm_B p s m args meth c D ck n0 C cc nL own Ts G) {pc tg : Nat} {ls : pL} {st : List Value} {uc us : Nat} {S : pS}  (hd : pm_okI cc pc (.bastore) tg) (h : pm_iir st (fun x i a r => pm_ar S a 3 (fun n f => pm_ix i n (pm_X p l e R s m args below meth c D n0 sa ck nL mc ms al Q (pc + 1) ls r uc us (pm_up S a (.inl (3, n, .inl (upd f i.toNatClampNeg (vp_nar .boolean x))))))))) : pm_X p l e R s m args below meth c D n0 sa ck nL mc ms al Q pc ls st uc us S := by
  intro lsA H locs hl hP hS
  obtain ⟨x, i, a, r, rfl, h⟩ := pm_iir_e h
  obtain ⟨ha, n, f, hf, hi, h⟩ := pm_ar_e h
  obtain ⟨hx, hb, hml, hown, hts, hr, hlocks, hex, hini, hK, hn0, hG⟩ := B
  refine va_zast (cA := ck 3) (n := n) (f := f) hx hb hK hP pm_w_D hS a 3 (by rw [pm_w_get ha, hf]; rfl) rfl hi (hd.d rfl) (fun H1 locs1 hP1 _ hS1 => ?_)
  exact h lsA H1 locs1 hl ((pm_w_set (n0 := n0) (sa := sa) (ck := ck) (S := S) (i := a) (.inl (3, n, .inl (upd f i.toNatClampNeg (vp_nar .boolean x))))) ▸ hP1) hS1
theorem so_lastore (B : pm_B p s m args meth c D ck n0 C cc nL own Ts G) {pc tg : Nat} {ls : pL} {st : List Value} {uc us : Nat} {S : pS}  (hd : pm_okI cc pc (.lastore) tg) (h : pm_lir st (fun x i a r => pm_aj S a (fun n f => pm_ix i n (pm_X p l e R s m args below meth c D n0 sa ck nL mc ms al Q (pc + 1) ls r uc us (pm_up S a (.inl (1, n, .inr (vp_updL f i.toNatClampNeg x)))))))) : pm_X p l e R s m args below meth c D n0 sa ck nL mc ms al Q pc ls st uc us S := by
  intro lsA H locs hl hP hS
  obtain ⟨x, i, a, r, rfl, h⟩ := pm_lir_e h
  obtain ⟨ha, n, f, hf, hi, h⟩ := pm_aj_e h
  obtain ⟨hx, hb, hml, hown, hts, hr, hlocks, hex, hini, hK, hn0, hG⟩ := B
  refine va_last (cA := ck 1) (n := n) (f := f) hx hb hK hP pm_w_D hS a 1 (by rw [pm_w_get ha, hf]; rfl) rfl hi (hd.d rfl) (fun H1 locs1 hP1 _ hS1 => ?_)
  exact h lsA H1 locs1 hl ((pm_w_set (n0 := n0) (sa := sa) (ck := ck) (S := S) (i := a) (.inl (1, n, .inr (vp_updL f i.toNatClampNeg x)))) ▸ hP1) hS1
theorem so_arraylength (B : pm_B p s m args meth c D ck n0 C cc nL own Ts G) {pc tg : Nat} {ls : pL} {st : List Value} {uc us : Nat} {S : pS}  (hd : pm_okI cc pc (.arraylength) tg) (h : pm_r st (fun a r => pm_an S a (fun n => pm_X p l e R s m args below meth c D n0 sa ck nL mc ms al Q (pc + 1) ls (.int (Int32.ofNat n) :: r) uc us S))) : pm_X p l e R s m args below meth c D n0 sa ck nL mc ms al Q pc ls st uc us S := by
  intro lsA H locs hl hP hS
  obtain ⟨a, r, rfl, h⟩ := pm_r_e h
  obtain ⟨ha, n, hf, h⟩ := pm_an_e h
  obtain ⟨hx, hb, hml, hown, hts, hr, hlocks, hex, hini, hK, hn0, hG⟩ := B
  rcases hf with ⟨k, f, hf, hk⟩ | ⟨f, hf⟩
  · rcases (by omega : k = 0 ∨ k = 1 ∨ k = 2 ∨ k = 3) with rfl | rfl | rfl | rfl
    · exact va_alen (cA := ck 0) (x := (n, .inl f)) hx hb hK hP a 0 (by rw [pm_w_get ha, hf]; rfl) rfl rfl (hd.d rfl) (h lsA H locs hl hP hS)
    · exact va_alen (cA := ck 1) (x := (n, .inl f)) hx hb hK hP a 1 (by rw [pm_w_get ha, hf]; rfl) rfl rfl (hd.d rfl) (h lsA H locs hl hP hS)
    · exact va_alen (cA := ck 2) (x := (n, .inl f)) hx hb hK hP a 2 (by rw [pm_w_get ha, hf]; rfl) rfl rfl (hd.d rfl) (h lsA H locs hl hP hS)
    · exact va_alen (cA := ck 3) (x := (n, .inl f)) hx hb hK hP a 3 (by rw [pm_w_get ha, hf]; rfl) rfl rfl (hd.d rfl) (h lsA H locs hl hP hS)
  · exact va_alen (cA := ck 1) (x := (n, .inr (.inl f))) hx hb hK hP a 1 (by rw [pm_w_get ha, hf]; rfl) rfl rfl (hd.d rfl) (h lsA H locs hl hP hS)
theorem so_lreturn (B : pm_B p s m args meth c D ck n0 C cc nL own Ts G) {pc tg : Nat} {ls : pL} {st : List Value} {uc us : Nat} {S : pS} (hu : uc ≤ mc ∧ us ≤ ms) (hd : pm_okI cc pc .lreturn tg) (h : pm_l st (fun x r => r = [] ∧ pc_rt C = some .long ∧ (al = false → uc = 0 ∧ us = 0) ∧ Q (.inl (some (.long x))) S)) : pm_X p l e R s m args below meth c D n0 sa ck nL mc ms al Q pc ls st uc us S := by
  intro lsA H locs hl hP hS
  obtain ⟨x, r, rfl, h0, h1, ha, h2⟩ := pm_l_e h
  subst h0
  clear h
  have h := h2
  obtain ⟨hx, hb, hml, hown, hts, hr, hlocks, hex, hini, hK, hn0, hG⟩ := B
  refine pm_ends (al := al) ha (fun hsm => ?_)
  refine W.widen (k := mc) (n := ms) hu.1 hu.2 (vx_ret ?_)
  exact W.lret (v := x) hx hb (hr.trans h1) (fun t ht hW => ⟨fun q => hsm q t ht, ⟨some (.long x), S, rfl, h, by rw [ht]; exact hP⟩, hS.F ht⟩) hS.2.2 (hd.d rfl) hlocks
theorem so_return (B : pm_B p s m args meth c D ck n0 C cc nL own Ts G) {pc tg : Nat} {ls : pL} {st : List Value} {uc us : Nat} {S : pS} (hu : uc ≤ mc ∧ us ≤ ms) (hd : pm_okI cc pc .return_ tg) (h : st = [] ∧ pc_rt C = none ∧ (al = false → uc = 0 ∧ us = 0) ∧ Q (.inl none) S) : pm_X p l e R s m args below meth c D n0 sa ck nL mc ms al Q pc ls st uc us S := by
  intro lsA H locs hl hP hS
  obtain ⟨rfl, h1, ha, h⟩ := h
  obtain ⟨hx, hb, hml, hown, hts, hr, hlocks, hex, hini, hK, hn0, hG⟩ := B
  refine pm_ends (al := al) ha (fun hsm => ?_)
  refine W.widen (k := mc) (n := ms) hu.1 hu.2 (vx_ret ?_)
  exact W.vret hx hb (hr.trans h1) (fun t ht hW => ⟨fun q => hsm q t ht, ⟨none, S, rfl, h, by rw [ht]; exact hP⟩, hS.F ht⟩) hS.2.2 (hd.d rfl) hlocks
end PMT
end
section
def pm_R (d mc ms : Nat) : Room := { frames := d, cells := mc, slots := ms, locals := 40 * d }
def pm_Pc (D : va_G) (n0 : Nat) (sa : Nat → Nat) (ck : Nat → ClassId) (G : State → Prop) (as : List Value) (S : pS) (al : Bool) : Array Value → State → Prop := va_Pc (as.map (pm_v n0 sa)) (fun U => n0 ≤ U.heap.size ∧ (al = true → U.heap.size ≤ n0 + S.1) ∧ va_P D vwCl (pm_w n0 sa ck S) U.heap ∧ va_K D vwCl (pm_tys ck) U ∧ G U)
/-- methods by their numbers: name, code, locals, the answer's type -/
abbrev pY : Type := Nat → MethodName × ByteArray × Nat × Option FieldType
def pm_ws (Y : pY) (TW : List Cond) (j : Nat) : List Cond := Cond.code (Y j).1 (Y j).2.1 (Y j).2.2.1 (Y j).2.2.2 :: TW
def pm_Met (l : Launch) (D : va_G) (n0 : Nat) (sa : Nat → Nat) (ck : Nat → ClassId) (G : State → Prop) (TW : List Cond) (Y : pY) (cost : Nat → Nat × Nat × Bool) (d j : Nat) (as : List Value) (S : pS) (Q : pQ) : Prop :=
  vx_Met l (Y j).1 (pm_ws Y TW j) (pm_R d (cost j).1 (cost j).2.1) (pm_Pc D n0 sa ck G as S (cost j).2.2) (pm_Qc D n0 sa ck (cost j).2.2 Q) (pm_XC D n0 sa ck Q) (cost j).1 (cost j).2.1 (fun q => n0 ≤ q)
/-- the ground stays -/
def pm_Gm (n0 : Nat) (G : State → Prop) : Prop := ∀ u U : State, u.WarmedH U.vm → (∀ q, q < u.heap.size → ¬ n0 ≤ q → U.heap[q]? = u.heap[q]?) → G u → G U
def pm_TW (TW Ts : List Cond) : Prop := (∀ w ∈ TW, w ∈ Ts) ∧ ∀ w ∈ TW, (w.onTables && w.keeps) = true ∨ ∃ ty, w = .arrayClass ty
/-- what a method's name must be, and its number of arguments -/
def pm_okY (Y : pY) (TW : List Cond) (j n : Nat) : Prop := Cond.code (Y j).1 (Y j).2.1 (Y j).2.2.1 (Y j).2.2.2 ∈ TW ∧ (Y j).2.2.1 ≤ 21 ∧ (Y j).1.cls ≠ "java/lang/invoke/MethodHandle" ∧ (Y j).1.cls ≠ "java/lang/invoke/VarHandle" ∧ (parseMethodDescriptor (Y j).1.desc).map (fun d => d.parameters.length) = some n ∧ Cond.initialized (Y j).1.cls ∈ TW
section PMC
variable {p : Program} {l : Launch} {e : Env} {R : Room} {s : State} {m : MethodId} {args : Array Value} {below : List Frame} {meth : Method} {c : Code} {D : va_G} {n0 : Nat} {sa : Nat → Nat} {ck : Nat → ClassId} {nL mc ms : Nat} {al : Bool} {Q : pQ} {C : pC} {cc : ByteArray} {own : String} {Ts TW : List Cond} {G : State → Prop} {Y : pY} {cost : Nat → Nat × Nat × Bool}
theorem pm_size {H : Heap} {locs : List Loc} {cells slots : Nat} {Qf : State → Prop} {g : JFrame} (k : H.size ≤ s.heap.size + cells → W p l e R s m args below meth c H locs cells slots Qf g) : W p l e R s m args below meth c H locs cells slots Qf g := fun T hT X => k (by rw [← hT]; exact X.heapSize) T hT X
theorem pm_Pc_blind (hGm : pm_Gm n0 G) {as : List Value} {S : pS} {al : Bool} : FrameBlind (pm_Pc D n0 sa ck G as S al) := by
  rintro a U g mk ⟨h0, h1, h2, h3, h4, h5⟩
  exact ⟨h0, h1, h2, h3, va_K.moved (u := U) (U := U.calling g mk a) (Vm.Alike.refl U.vm) h4, hGm U (U.calling g mk a) (State.WarmedH.refl U) (fun _ _ _ => rfl) h5⟩
theorem pm_Pc_at (hGm : pm_Gm n0 G) (hn0 : n0 ≤ s.heap.size) (hK : va_K D vwCl (pm_tys ck) s) (hG : G s) {as : List Value} {S : pS} {al : Bool} {H : Heap} {locs : List Loc} (hP : va_P D vwCl (pm_w n0 sa ck S) H) (hS : va_S (fun q => n0 ≤ q) s.heap H locs) (hal : al = true → H.size ≤ n0 + S.1) : ∀ U : State, U.heap = H → s.WarmedH U.vm → pm_Pc D n0 sa ck G as S al (as.map (pm_v n0 sa)).toArray U := by
  intro U hU hW
  refine ⟨rfl, ?_, ?_, ?_, va_K.moved hW.alike hK, hGm s U hW (fun q h1 h2 => by rw [hU]; exact hS.2.1 q h1 h2) hG⟩
  · rw [hU]; exact Nat.le_trans hn0 hS.1
  · rw [hU]; exact hal
  · rw [hU]; exact hP
theorem pm_narrow {T T' : State} {locs L : List Loc} {cells slots mc' ms' : Nat} (X : Stand p l e R s m args below meth c T locs cells slots) (X' : Stand p l e R s m args below meth c T' (locs ++ L) (cells + mc') (slots + ms')) (h : pm_same T T') : Stand p l e R s m args below meth c T' (locs ++ L) cells slots := by
  obtain ⟨h1, h2⟩ := h
  have hlen : T'.heap.size ≤ s.heap.size + cells := by rw [h1]; exact X.heapSize
  have e5 : (T'.heap.toList.drop s.heap.size).map (·.slots.size) = (T.heap.toList.drop s.heap.size).map (·.slots.size) := by
    apply List.ext_getElem?
    intro i
    rw [List.getElem?_map, List.getElem?_map, List.getElem?_drop, List.getElem?_drop, Array.getElem?_toList, Array.getElem?_toList]
    cases hc : T.heap[s.heap.size + i]? with
    | none =>
      have hge : T.heap.size ≤ s.heap.size + i := Array.getElem?_eq_none_iff.mp hc
      rw [Array.getElem?_eq_none_iff.mpr (show T'.heap.size ≤ s.heap.size + i by rw [h1]; exact hge)]
    | some c0 =>
      obtain ⟨c', e1, e2⟩ := h2 _ _ hc
      rw [e1]
      simp [e2]
  have s5 : ((T'.heap.toList.drop s.heap.size).map (·.slots.size)).sum ≤ slots := by rw [e5]; exact X.same.2.2.2.2.1
  exact { X' with same := ⟨X'.same.1, X'.same.2.1, hlen, X'.same.2.2.2.1, s5, X'.same.2.2.2.2.2⟩ }
theorem pm_back {H : Heap} {locs : List Loc} {uc us mc' ms' pc : Nat} {al' : Bool} {lsA : Array Slot} {st0 rest : List Value} {a : Array Value} {Qf : State → Prop} {Q1 : pQ} (hr : vx_Run p l e R s m args below meth c H locs uc us mc' ms' (F0 m pc lsA st0) rest (pm_Qc D n0 sa ck al' Q1 a) (pm_XC D n0 sa ck Q1) (fun q => n0 ≤ q)) (hS : va_S (fun q => n0 ≤ q) s.heap H locs)
    (kk : ∀ (v : Option Value) (S1 : pS) (H1 : Heap) (locs1 : List Loc), Q1 (.inl v) S1 → va_P D vwCl (pm_w n0 sa ck S1) H1 → va_S (fun q => n0 ≤ q) s.heap H1 locs1 → W p l e R s m args below meth c H1 locs1 (pm_nu al' uc mc') (pm_nu al' us ms') Qf (F0 m (pc + 3) lsA ((v.map (pm_v n0 sa)).toList ++ rest)))
    (kx : ∀ (E : String) (S1 : pS) (H1 : Heap) (locs1 : List Loc) (q : Addr) (ce : Cell), Q1 (.inr E) S1 → va_P D vwCl (pm_w n0 sa ck S1) H1 → va_S (fun q => n0 ≤ q) s.heap H1 locs1 → H1[q]? = some ce → ce.vm = .none → s.vm.findClass E = some ce.cls → vx_W p l e R s m args below meth c H1 locs1 (uc + mc') (us + ms') Qf (F0 m pc lsA rest) q) : W p l e R s m args below meth c H locs uc us Qf (F0 m pc lsA st0) := by
  intro T hT X
  rcases hr T hT X with ⟨v, st₀, t, T', L, h0, X', hL, e1, e2, ⟨hsm, ⟨w, S1, hv, hq, hp⟩, hF⟩, st⟩ | ⟨q, st₀, t, T', L, E, ce, h0, X', hL, e1, e2, ⟨⟨S1, hq, hp⟩, hF⟩, hce, hcv, hcl, st⟩
  · cases hv
    obtain ⟨k1, k2, k3⟩ := vx_keep (A0 := fun q => n0 ≤ q) h0 e1 hS (fun q _ h => h) (fun q h => h) hL hF
    have X2 : Stand p l e R s m args below meth c T' (locs ++ L) (pm_nu al' uc mc') (pm_nu al' us ms') := by
      cases al' with
      | true => exact X'
      | false =>
        obtain ⟨g1, g2⟩ := hsm rfl
        refine pm_narrow X X' ⟨by rw [e1, g1, h0, hT], fun a c0 hc => ?_⟩
        obtain ⟨c', z1, z2⟩ := g2 a c0 (by rw [h0, ← hT]; exact hc)
        exact ⟨c', by rw [e1]; exact z1, z2⟩
    obtain ⟨t2, a1, b1⟩ := kk w S1 T'.heap (locs ++ L) hq (by rw [e1]; exact hp) k3 T' rfl X2
    exact ⟨t2, st t2 a1, b1⟩
  · obtain ⟨k1, k2, k3⟩ := vx_keep (A0 := fun q => n0 ≤ q) h0 e1 hS (fun q _ h => h) (fun q h => h) hL hF
    obtain ⟨t2, a1, b1⟩ := kx E S1 T'.heap (locs ++ L) q ce hq (by rw [e1]; exact hp) k3 (by rw [e1]; exact hce) hcv hcl T' rfl X'
    exact ⟨t2, st.trans a1, b1⟩
theorem pm_good (hT : pm_TW TW Ts) {j n : Nat} (hY : pm_okY Y TW j n) : GoodIn Ts (pm_ws Y TW j) := by
  intro w hw
  rcases List.mem_cons.mp hw with rfl | h
  · exact ⟨hT.1 _ hY.1, hT.2 _ hY.1⟩
  · exact ⟨hT.1 _ h, hT.2 _ h⟩
theorem pm_cb {d : Nat} (B : pm_B p s m args meth c D ck n0 C cc nL own Ts G) (hT : pm_TW TW Ts) {j n : Nat} (hY : pm_okY Y TW j n) {i : Nat} (hl : Cond.methodLink own i (Y j).1 ∈ TW) : CallB (pm_R (d + 1) mc ms) s args own i (Y j).1 (Y j).2.1 (Y j).2.2.1 (Y j).2.2.2 (pm_ws Y TW j) (pm_R d (cost j).1 (cost j).2.1) (cost j).1 (cost j).2.1 n :=
  callB_of n B.2.2.2.2.1 (pm_good hT hY) rfl rfl rfl (B.2.2.2.2.1 _ (hT.1 _ hY.2.2.2.2.2)) (B.2.2.2.2.1 _ (hT.1 _ hl)) ⟨hY.2.2.1, hY.2.2.2.1, hY.2.2.2.2.1⟩ ⟨Nat.le_refl _, by have := hY.2.1; show 8 + ((Y j).2.2.1 + 11) + 40 * d ≤ 40 * (d + 1); omega⟩
theorem pm_rest4 {r : List Value} (h : r.length ≤ 4) : ((r.map (pm_v n0 sa)).map fun v => v.category).sum ≤ 8 := by
  have hc : ∀ v : Value, v.category ≤ 2 := fun v => by cases v <;> simp [Value.category]
  match r, h with
  | [], _ => simp
  | [a], _ => have := hc (pm_v n0 sa a); simp; omega
  | [a, b], _ => have := hc (pm_v n0 sa a); have := hc (pm_v n0 sa b); simp; omega
  | [a, b, c], _ => have := hc (pm_v n0 sa a); have := hc (pm_v n0 sa b); have := hc (pm_v n0 sa c); simp; omega
  | [a, b, c, d], _ => have := hc (pm_v n0 sa a); have := hc (pm_v n0 sa b); have := hc (pm_v n0 sa c); have := hc (pm_v n0 sa d); simp; omega
theorem pm_nu_le {b : Bool} {u x y : Nat} (h : u + x ≤ y) : pm_nu b u x ≤ y := by
  cases b
  · exact Nat.le_trans (Nat.le_add_right u x) h
  · exact h
/-- behind a call that the pure machine has made -/
theorem pm_aft {R : Room} (B : pm_B p s m args meth c D ck n0 C cc nL own Ts G) {pc : Nat} {ls : pL} {j : Nat} {r : List Value} {uc us : Nat} {lsA : Array Slot} {H : Heap} {locs : List Loc} {st0 : List Value} {a : Array Value} {X : pF} {Q1 : pQ} (hq1 : ∀ v S1, Q1 (.inl v) S1 → X (pc + 3) ls (v.toList ++ r) (pm_nu (cost j).2.2 uc (cost j).1) (pm_nu (cost j).2.2 us (cost j).2.1) S1) (hq2 : ∀ E S1, Q1 (.inr E) S1 → Q (.inr E) S1) (hX : ∀ pc ls st uc us S, uc ≤ mc ∧ us ≤ ms → X pc ls st uc us S → pm_X p l e R s m args below meth c D n0 sa ck nL mc ms al Q pc ls st uc us S) (hl : pm_lr n0 sa lsA nL ls) (hS : va_S (fun q => n0 ≤ q) s.heap H locs) (hu : uc + (cost j).1 ≤ mc) (hv : us + (cost j).2.1 ≤ ms)
    (hr : vx_Run p l e R s m args below meth c H locs uc us (cost j).1 (cost j).2.1 (F0 m pc lsA st0) (r.map (pm_v n0 sa)) (pm_Qc D n0 sa ck (cost j).2.2 Q1 a) (pm_XC D n0 sa ck Q1) (fun q => n0 ≤ q)) : W p l e R s m args below meth c H locs uc us (vx_MQ below (pm_Qc D n0 sa ck al Q) (pm_XC D n0 sa ck Q) args s mc ms (fun q => n0 ≤ q)) (F0 m pc lsA st0) := by
  obtain ⟨hx, hb, hml, hown, hts, hrt, hlocks, hex, hini, hK, hn0, hG⟩ := B
  refine pm_back hr hS (fun v S1 H1 locs1 hq hP1 hS1 => ?_) (fun E S1 H1 locs1 q ce hq hP1 hS1 h1 h2 h3 => ?_)
  · have := hX _ _ _ _ _ _ ⟨pm_nu_le hu, pm_nu_le hv⟩ (hq1 v S1 hq) lsA H1 locs1 hl hP1 hS1
    cases v with
    | none => exact this
    | some v => exact this
  · exact vx_out (fun x hx => (hex x hx).elim) hlocks h1 h2 h3 (fun t ht _ => ⟨⟨S1, hq2 E S1 hq, by rw [ht]; exact hP1⟩, hS1.F ht⟩) hS1.2.2 hu hv
theorem so_static {d : Nat} (B : pm_B p s m args meth c D ck n0 C cc nL own Ts G) (hT : pm_TW TW Ts) (hGm : pm_Gm n0 G) {call : pCall} (hcall : ∀ j as S Q, call j as S Q → pm_Met l D n0 sa ck G TW Y cost d j as S Q) {al : Bool} {nxe : Nat} (hal : al = true → s.heap.size ≤ n0 + nxe) {X : pF} (hX : ∀ pc ls st uc us S, uc ≤ mc ∧ us ≤ ms → X pc ls st uc us S → pm_X p l e (pm_R (d + 1) mc ms) s m args below meth c D n0 sa ck nL mc ms al Q pc ls st uc us S)
    {pc tg : Nat} {ls : pL} {st : List Value} {uc us : Nat} {S : pS} {i j n : Nat} (hd : pm_okI cc pc (.invokestatic i) tg) (hY : pm_okY Y TW j n) (hlk : Cond.methodLink own i (Y j).1 ∈ TW) (hst : Cond.static (Y j).1 ∈ TW)
    (h : pm_ar1 st n (fun as r => pm_inv call cost al nxe mc ms Q X pc ls j as r uc us S)) : pm_X p l e (pm_R (d + 1) mc ms) s m args below meth c D n0 sa ck nL mc ms al Q pc ls st uc us S := by
  intro lsA H locs hl hP hS
  obtain ⟨hn, h4, h5, h6, h7, h8⟩ := h
  have B' := B
  obtain ⟨hx, hb, hml, hown, hts, hrt, hlocks, hex, hini, hK, hn0, hG⟩ := B
  refine pm_size (fun hz => ?_)
  refine pm_aft (Q1 := pm_po cost Q X pc ls j (st.drop n) uc us) (r := st.drop n) (a := ((st.take n).reverse.map (pm_v n0 sa)).toArray) B' (fun _ _ h => h) (fun _ _ h => h) hX hl hS h5 h6 ?_
  exact vx_runS (As := (st.take n).reverse.map (pm_v n0 sa)) (Ts := Ts) ⟨hx, hb, hml, hown, hts⟩ (hcall _ _ _ _ h8) ⟨pm_cb B' hT hY hlk, hts _ (hT.1 _ hst)⟩ ⟨pm_Pc_blind hGm, pm_Pc_at hGm hn0 hK hG hP hS (fun q => by obtain ⟨q1, q2⟩ := h7 q; have := hal q1; omega)⟩ rfl (by simp; omega) hl.2.1
    (by show st.map (pm_v n0 sa) = _; rw [← List.map_reverse, List.reverse_reverse, ← List.map_append, List.take_append_drop]) (by simpa [F0, JFrame.monitorRoom] using pm_rest4 h4) (hd.d rfl) ⟨h5, h6⟩
theorem so_virtual {d : Nat} (B : pm_B p s m args meth c D ck n0 C cc nL own Ts G) (hT : pm_TW TW Ts) (hGm : pm_Gm n0 G) {call : pCall} (hcall : ∀ j as S Q, call j as S Q → pm_Met l D n0 sa ck G TW Y cost d j as S Q) {al : Bool} {nxe : Nat} (hal : al = true → s.heap.size ≤ n0 + nxe) {X : pF} (hX : ∀ pc ls st uc us S, uc ≤ mc ∧ us ≤ ms → X pc ls st uc us S → pm_X p l e (pm_R (d + 1) mc ms) s m args below meth c D n0 sa ck nL mc ms al Q pc ls st uc us S)
    {pc tg : Nat} {ls : pL} {st : List Value} {uc us : Nat} {S : pS} {i j n ci : Nat} {T : u_T} {N : Nat} (hd : pm_okI cc pc (.invokevirtual i) tg) (hY : pm_okY Y TW j n) (hlk : Cond.methodLink own i (Y j).1 ∈ TW) (hin : Cond.instanceMethod (Y j).1 ∈ TW) (hse : Cond.selects (Y j).1.cls (Y j).1 (Y j).1 ∈ TW) (hci : vwCl[ci]? = some ((Y j).1.cls, T, N))
    (h : pm_ar1 st n (fun as r => pm_r r (fun b r => pm_ob S b ci (fun _ => True) ∧ pm_inv call cost al nxe mc ms Q X pc ls j (.ref b :: as) r uc us S))) : pm_X p l e (pm_R (d + 1) mc ms) s m args below meth c D n0 sa ck nL mc ms al Q pc ls st uc us S := by
  intro lsA H locs hl hP hS
  obtain ⟨hn, h⟩ := h
  obtain ⟨b, r, hr0, hob, h4, h5, h6, h7, h8⟩ := pm_r_e h
  clear h
  obtain ⟨hbl, fs, hfs, -⟩ := pm_ob_e hob
  have B' := B
  obtain ⟨hx, hb, hml, hown, hts, hrt, hlocks, hex, hini, hK, hn0, hG⟩ := B
  refine pm_size (fun hz => ?_)
  refine pm_aft (Q1 := pm_po cost Q X pc ls j r uc us) (r := r) (a := ((.ref b :: (st.take n).reverse).map (pm_v n0 sa)).toArray) B' (fun _ _ h => h) (fun _ _ h => h) hX hl hS h5 h6 ?_
  exact vx_runV (C := (Y j).1.cls) (b := n0 + b) (As := (st.take n).reverse.map (pm_v n0 sa)) (Ts := Ts) ⟨hx, hb, hml, hown, hts⟩ (hcall _ _ _ _ h8) ⟨pm_cb B' hT hY hlk, hts _ (hT.1 _ hin), hts _ (hT.1 _ hse)⟩ ⟨pm_Pc_blind hGm, va_recv hK hP (ci := ci) (q0 := b) (fs := fs.map (pm_v n0 sa)) hci (by rw [pm_w_get hbl, hfs]; rfl), pm_Pc_at hGm hn0 hK hG hP hS (fun q => by obtain ⟨q1, q2⟩ := h7 q; have := hal q1; omega)⟩ rfl (by simp; omega) hl.2.1
    (by show st.map (pm_v n0 sa) = _; rw [← List.map_reverse, List.reverse_reverse]; show _ = List.map (pm_v n0 sa) (st.take n) ++ List.map (pm_v n0 sa) (.ref b :: r); rw [← hr0, ← List.map_append, List.take_append_drop]) (by simpa [F0, JFrame.monitorRoom] using pm_rest4 h4) (hd.d rfl) ⟨h5, h6⟩
/-- a call on a text -/
theorem so_text {d : Nat} (B : pm_B p s m args meth c D ck n0 C cc nL own Ts G) (hT : pm_TW TW Ts) (hGm : pm_Gm n0 G) {call : pCall} (hcall : ∀ j as S Q, call j as S Q → pm_Met l D n0 sa ck G TW Y cost d j as S Q) {al : Bool} {nxe : Nat} (hal : al = true → s.heap.size ≤ n0 + nxe) {X : pF} (hX : ∀ pc ls st uc us S, uc ≤ mc ∧ us ≤ ms → X pc ls st uc us S → pm_X p l e (pm_R (d + 1) mc ms) s m args below meth c D n0 sa ck nL mc ms al Q pc ls st uc us S)
    {pc tg : Nat} {ls : pL} {st : List Value} {uc us : Nat} {S : pS} {i j n : Nat} (hd : pm_okI cc pc (.invokevirtual i) tg) (hY : pm_okY Y TW j n) (hlk : Cond.methodLink own i (Y j).1 ∈ TW) (hin : Cond.instanceMethod (Y j).1 ∈ TW) (hse : Cond.selects (Y j).1.cls (Y j).1 (Y j).1 ∈ TW)
    (hrc : ∀ b H locs, va_S (fun q => n0 ≤ q) s.heap H locs → ∃ cell : Cell, H[sa b]? = some cell ∧ cell.vm.isStatics = false ∧ s.vm.findClass (Y j).1.cls = some cell.cls)
    (h : pm_ar1 st n (fun as r => pm_t r (fun b r => pm_inv call cost al nxe mc ms Q X pc ls j (.retAddr b :: as) r uc us S))) : pm_X p l e (pm_R (d + 1) mc ms) s m args below meth c D n0 sa ck nL mc ms al Q pc ls st uc us S := by
  intro lsA H locs hl hP hS
  obtain ⟨hn, h⟩ := h
  obtain ⟨b, r, hr0, h4, h5, h6, h7, h8⟩ : ∃ b r, st.drop n = .retAddr b :: r ∧ pm_inv call cost al nxe mc ms Q X pc ls j (.retAddr b :: (st.take n).reverse) r uc us S := by
    unfold pm_t at h; split at h
    · exact ⟨_, _, ‹_›, h⟩
    · exact h.elim
  clear h
  have B' := B
  obtain ⟨hx, hb, hml, hown, hts, hrt, hlocks, hex, hini, hK, hn0, hG⟩ := B
  refine pm_size (fun hz => ?_)
  refine pm_aft (Q1 := pm_po cost Q X pc ls j r uc us) (r := r) (a := ((.retAddr b :: (st.take n).reverse).map (pm_v n0 sa)).toArray) B' (fun _ _ h => h) (fun _ _ h => h) hX hl hS h5 h6 ?_
  exact vx_runV (C := (Y j).1.cls) (b := sa b) (As := (st.take n).reverse.map (pm_v n0 sa)) (Ts := Ts) ⟨hx, hb, hml, hown, hts⟩ (hcall _ _ _ _ h8) ⟨pm_cb B' hT hY hlk, hts _ (hT.1 _ hin), hts _ (hT.1 _ hse)⟩ ⟨pm_Pc_blind hGm, hrc b H locs hS, pm_Pc_at hGm hn0 hK hG hP hS (fun q => by obtain ⟨q1, q2⟩ := h7 q; have := hal q1; omega)⟩ rfl (by simp; omega) hl.2.1
    (by show st.map (pm_v n0 sa) = _; rw [← List.map_reverse, List.reverse_reverse]; show _ = List.map (pm_v n0 sa) (st.take n) ++ List.map (pm_v n0 sa) (.retAddr b :: r); rw [← hr0, ← List.map_append, List.take_append_drop]) (by simpa [F0, JFrame.monitorRoom] using pm_rest4 h4) (hd.d rfl) ⟨h5, h6⟩
/-- a call that never throws, as the kit's other rows have it -/
theorem pm_calm {d j : Nat} {as : List Value} {S : pS} {Q1 : pQ} (h : pm_Met l D n0 sa ck G TW Y cost d j as S Q1) (hn : ∀ E S, ¬ Q1 (.inr E) S) : Met l (Y j).1 (pm_ws Y TW j) (pm_R d (cost j).1 (cost j).2.1) (pm_Pc D n0 sa ck G as S (cost j).2.2) (pm_Qc D n0 sa ck (cost j).2.2 Q1) (cost j).1 (cost j).2.1 (fun q => n0 ≤ q) := by
  intro p e h1 h2 h3 s m args below h4 h5 h6 h7
  obtain ⟨n, o, g1, g2, g3, g4⟩ := h p e h1 h2 h3 s m args below h4 h5 h6 h7
  refine ⟨n, o, g1, g2, g3, ?_⟩
  rcases g4 with g4 | ⟨q, -, E, ce, L, ⟨⟨S1, hq, -⟩, -⟩, -⟩
  · exact g4
  · exact (hn _ _ hq).elim
theorem so_init {d : Nat} (B : pm_B p s m args meth c D ck n0 C cc nL own Ts G) (hT : pm_TW TW Ts) (hGm : pm_Gm n0 G) {call : pCall} (hcall : ∀ j as S Q, call j as S Q → pm_Met l D n0 sa ck G TW Y cost d j as S Q) {al : Bool} {nxe : Nat} (hal : al = true → s.heap.size ≤ n0 + nxe) {X : pF} (hX : ∀ pc ls st uc us S, uc ≤ mc ∧ us ≤ ms → X pc ls st uc us S → pm_X p l e (pm_R (d + 1) mc ms) s m args below meth c D n0 sa ck nL mc ms al Q pc ls st uc us S)
    {pc tg : Nat} {ls : pL} {st : List Value} {uc us : Nat} {S : pS} {i j n : Nat} {host : String} (hd : pm_okI cc pc (.invokespecial i) tg) (hY : pm_okY Y TW j n) (hnm : (Y j).1.name = "<init>") (hrn : (Y j).2.2.2 = none) (hlk : va_Nw (.methodLinkNest own i (Y j).1 host) s) (hin : Cond.instanceMethod (Y j).1 ∈ TW)
    (h : pm_ar1 st n (fun as r => pm_r r (fun b r => pm_inv call cost al nxe mc ms (fun _ _ => False) X pc ls j (.ref b :: as) r uc us S))) : pm_X p l e (pm_R (d + 1) mc ms) s m args below meth c D n0 sa ck nL mc ms al Q pc ls st uc us S := by
  intro lsA H locs hl hP hS
  obtain ⟨hn, h⟩ := h
  obtain ⟨b, r, hr0, h4, h5, h6, h7, h8⟩ := pm_r_e h
  clear h
  have B' := B
  obtain ⟨hx, hb, hml, hown, hts, hrt, hlocks, hex, hini, hK, hn0, hG⟩ := B
  refine pm_size (fun hz => ?_)
  have hM := pm_calm (hcall _ _ _ _ h8) (fun E S h => h)
  have hcn := va_cnB (args := args) (R := pm_R (d + 1) mc ms) (own := own) (host := host) (index := i) (ws := pm_ws Y TW j) (rm := pm_R d (cost j).1 (cost j).2.1) n hts (pm_good hT hY) rfl rfl rfl hlk (hts _ (hT.1 _ hY.2.2.2.2.2)) ⟨hY.2.2.1, hY.2.2.2.1, hY.2.2.2.2.1⟩ ⟨Nat.le_refl _, by have := hY.2.1; show 8 + ((Y j).2.2.1 + 11) + 40 * d ≤ 40 * (d + 1); omega⟩
  rw [hrn] at hcn
  have hr := va_runIN (b := n0 + b) (As := (st.take n).reverse.map (pm_v n0 sa)) (rest := r.map (pm_v n0 sa)) (Ts := Ts) (meth := meth) (below := below) (e := e) (locs := locs) (cells := uc) (slots := us) (g := F0 m pc lsA (st.map (pm_v n0 sa))) ⟨hx, hb, hml, hown, hts⟩ hM ⟨hcn, hnm, hts _ (hT.1 _ hin)⟩ ⟨pm_Pc_blind hGm, pm_Pc_at hGm hn0 hK hG hP hS (fun q => by obtain ⟨q1, q2⟩ := h7 q; have := hal q1; omega)⟩ rfl (by simp; omega) hl.2.1
    (by show st.map (pm_v n0 sa) = _; rw [← List.map_reverse, List.reverse_reverse]; show _ = List.map (pm_v n0 sa) (st.take n) ++ List.map (pm_v n0 sa) (.ref b :: r); rw [← hr0, ← List.map_append, List.take_append_drop]) (by simpa [F0, JFrame.monitorRoom] using pm_rest4 h4) (hd.d rfl) ⟨h5, h6⟩
  refine pm_aft (Q1 := pm_po cost (fun _ _ => False) X pc ls j r uc us) (r := r) (a := ((.ref b :: (st.take n).reverse).map (pm_v n0 sa)).toArray) (R := pm_R (d + 1) mc ms) B' (fun _ _ h => h) (fun _ _ h => False.elim h) hX hl hS h5 h6 ?_
  exact fun T hT0 X0 => Or.inl (hr T hT0 X0)
theorem so_objInit {d : Nat} (B : pm_B p s m args meth c D ck n0 C cc nL own Ts G) (hT : pm_TW TW Ts) {pc tg : Nat} {ls : pL} {st : List Value} {uc us : Nat} {S : pS} {i ci : Nat} (hd : pm_okI cc pc (.invokespecial i) tg) (hlk : Cond.methodLink own i Lib.objectInit ∈ TW) (hin : Cond.instanceMethod Lib.objectInit ∈ TW) (hco : Cond.code Lib.objectInit ⟨#[0xb1]⟩ 1 none ∈ TW)
    (h : 2 ≤ d ∧ pm_r st (fun b r => pm_ob S b ci (fun _ => True) ∧ r = [] ∧ pm_X p l e (pm_R d mc ms) s m args below meth c D n0 sa ck nL mc ms al Q (pc + 3) ls r uc us S)) : pm_X p l e (pm_R d mc ms) s m args below meth c D n0 sa ck nL mc ms al Q pc ls st uc us S := by
  intro lsA H locs hl hP hS
  obtain ⟨hd2, h⟩ := h
  obtain ⟨b, r, rfl, hob, hr0, h2⟩ := pm_r_e h
  clear h
  subst hr0
  obtain ⟨hx, hb, hml, hown, hts, hrt, hlocks, hex, hini, hK, hn0, hG⟩ := B
  exact W.objInit hx hb hown (hts _ (hT.1 _ hlk)) (hts _ (hT.1 _ hin)) (hts _ (hT.1 _ hco)) rfl (by rw [hml]; exact hl.2.1) rfl (hd.d rfl) (by show 1 ≤ d; omega) (by show _ ≤ 40 * d; simp [JFrame.monitorRoom]; omega) (h2 lsA H locs hl hP hS)
end PMC
end
section
def pm_okN (own : String) (Ts : List Cond) (i ci : Nat) (fs : List Value) : Prop := ∃ (C' : String) (T : u_T) (N : Nat), vwCl[ci]? = some (C', T, N) ∧ Cond.classLink own i C' ∈ Ts ∧ Cond.instantiable C' N ∈ Ts ∧ Cond.initialized C' ∈ Ts ∧ fs.length = N ∧ (∀ j, j < N → ∀ t, parseFieldDescriptor (T j).2.2.1 = some t → defaultValue t = vp_V fs j) ∧ ∀ n0 sa, fs.map (pm_v n0 sa) = fs
def pm_okK (own : String) (Ts : List Cond) (sa : Nat → Nat) (s : State) (i : Nat) (v : Value) : Prop := match v with
  | .int x => Cond.constant own i x ∈ Ts
  | .long x => Cond.constantLong own i x ∈ Ts
  | .retAddr k => ∃ tx, vk_R own i tx (sa k) s
  | _ => False
section PMN
variable {p : Program} {l : Launch} {e : Env} {R : Room} {s : State} {m : MethodId} {args : Array Value} {below : List Frame} {meth : Method} {c : Code} {D : va_G} {n0 : Nat} {sa : Nat → Nat} {ck : Nat → ClassId} {nL mc ms : Nat} {al : Bool} {Q : pQ} {C : pC} {cc : ByteArray} {own : String} {Ts TW : List Cond} {G : State → Prop}
theorem pm_fresh {A : Nat → Prop} {S : pS} {q : Nat} {E : va_E} {H1 : Heap} {b : Nat} (hD : va_D (fun q => n0 ≤ q) (pm_w n0 sa ck S ++ [(q, E)])) (hP : va_P D vwCl (pm_w n0 sa ck S ++ [(q, E)]) H1) (hz : H1.size ≤ b) (hb : b = n0 + S.1 + 1) : q = n0 + S.1 := by
  have e0 : (pm_w n0 sa ck S ++ [(q, E)])[S.1]? = some (q, E) := by
    rw [List.getElem?_append_right (by rw [pm_w_len]; exact Nat.le_refl _), pm_w_len, Nat.sub_self]; rfl
  have h1 : n0 ≤ q := hD.2 S.1 _ e0
  have h2 : q < H1.size := (hP S.1 _ e0).lt
  by_cases h3 : q < n0 + S.1
  · have e1 : (pm_w n0 sa ck S ++ [(q, E)])[q - n0]? = some (n0 + (q - n0), pm_e n0 sa ck (S.2 (q - n0))) := by
      rw [List.getElem?_append_left (by rw [pm_w_len]; omega), pm_w_get (by omega)]
    have := hD.1 (q - n0) S.1 _ _ e1 e0 (by show n0 + (q - n0) = q; omega)
    omega
  · omega
theorem so_new {d : Nat} (B : pm_B p s m args meth c D ck n0 C cc nL own Ts G) (hC : pm_okC Ts) {al : Bool} {nxe : Nat} (hal : al = true → s.heap.size ≤ n0 + nxe) {pc tg : Nat} {ls : pL} {st : List Value} {uc us : Nat} {S : pS} {i ci : Nat} {fs : List Value} (hd : pm_okI cc pc (.new i) tg) (hN : pm_okN own Ts i ci fs)
    (h : uc + 1 ≤ mc ∧ us + fs.length ≤ ms ∧ (al = true ∧ S.1 = nxe + uc) ∧ pm_X p l e (pm_R d mc ms) s m args below meth c D n0 sa ck nL mc ms al Q (pc + 3) ls (.ref S.1 :: st) (uc + 1) (us + fs.length) (S.1 + 1, va_up S.2 S.1 (.inr (ci, fs)))) : pm_X p l e (pm_R d mc ms) s m args below meth c D n0 sa ck nL mc ms al Q pc ls st uc us S := by
  intro lsA H locs hl hP hS
  obtain ⟨h1, h2, ⟨h3, h4⟩, h⟩ := h
  obtain ⟨C', T, N, hc, hcl, hins, hini', hlen, hdef, hmap⟩ := hN
  obtain ⟨hin, ty0, hty, hnm⟩ := hC _ _ _ _ hc
  obtain ⟨hx, hb, hml, hown, hts, hrt, hlocks, hex, hini, hK, hn0, hG⟩ := B
  have hsz := hal h3
  subst hlen
  refine va_new (D := D) (ci := ci) (fs := fs) (C := C') (T := T) (N := fs.length) hx hb hts hin ty0 hty hown (hts _ hcl) (hts _ hins) (hts _ hini') hK hP pm_w_D hS (fun q h => Nat.le_trans hn0 h) hc (fun j hj => hdef j hj _ (hty j hj)) h1 h2 (hd.d rfl) (fun q H1 hP1 hD1 hS1 => ?_)
  refine pm_size (fun hz => ?_)
  have hq : q = n0 + S.1 := pm_fresh (A := fun _ => True) hD1 hP1 (Nat.le_trans hz (Nat.add_le_add_right hsz _)) (by omega)
  subst hq
  have e2 : pm_w n0 sa ck S ++ [(n0 + S.1, .inr (ci, fs))] = pm_w n0 sa ck (S.1 + 1, va_up S.2 S.1 (.inr (ci, fs))) := by
    rw [← pm_w_push]
    show _ = pm_w n0 sa ck S ++ [(n0 + S.1, .inr (ci, fs.map (pm_v n0 sa)))]
    rw [hmap]
  rw [e2] at hP1
  exact h lsA H1 locs hl hP1 hS1
theorem so_newarray {d : Nat} (B : pm_B p s m args meth c D ck n0 C cc nL own Ts G) {al : Bool} {nxe : Nat} (hal : al = true → s.heap.size ≤ n0 + nxe) {pc tg : Nat} {ls : pL} {st : List Value} {uc us : Nat} {S : pS} {t : ClassFile.ArrayType} (hd : pm_okI cc pc (.newarray t) tg) (ha : Cond.arrayClass (newarray.typeOf t) ∈ Ts)
    (h : pm_o (pm_akd t) (fun kd => pm_i st (fun n r => ¬ n < 0 ∧ n.toNatClampNeg ≤ 65536 ∧ uc + 1 ≤ mc ∧ us + n.toNatClampNeg ≤ ms ∧ (al = true ∧ S.1 = nxe + uc) ∧ pm_X p l e (pm_R d mc ms) s m args below meth c D n0 sa ck nL mc ms al Q (pc + 2) ls (.ref S.1 :: r) (uc + 1) (us + n.toNatClampNeg) (S.1 + 1, va_up S.2 S.1 (pm_na kd n.toNatClampNeg))))) : pm_X p l e (pm_R d mc ms) s m args below meth c D n0 sa ck nL mc ms al Q pc ls st uc us S := by
  intro lsA H locs hl hP hS
  obtain ⟨kd, hkd, h⟩ := pm_o_e h
  obtain ⟨n, r, rfl, hn, hN, h1, h2, ⟨h3, h4⟩, h9⟩ := pm_i_e h
  clear h
  have h := h9
  clear h9
  obtain ⟨hx, hb, hml, hown, hts, hrt, hlocks, hex, hini, hK, hn0, hG⟩ := B
  have hsz := hal h3
  have fin : ∀ (ty : FieldType) (a0 : vp_A) (kd : Nat), newarray.typeOf t = ty → (pm_tys ck)[kd]? = some (ck kd, ty) → (∀ cA cB, va_RA s cA ty → va_RA s cB ty → cA = cB) → (∀ cA : ClassId, vp_cell cA a0 = arrV cA n.toNatClampNeg (fun _ => defaultValue ty)) → componentBytes ty ≤ 8 → pm_e n0 sa ck (pm_na kd n.toNatClampNeg) = .inl (ck kd, a0) →
      pm_X p l e (pm_R d mc ms) s m args below meth c D n0 sa ck nL mc ms al Q (pc + 2) ls (.ref S.1 :: r) (uc + 1) (us + n.toNatClampNeg) (S.1 + 1, va_up S.2 S.1 (pm_na kd n.toNatClampNeg)) →
      W p l e (pm_R d mc ms) s m args below meth c H locs uc us (vx_MQ below (pm_Qc D n0 sa ck al Q) (pm_XC D n0 sa ck Q) args s mc ms (fun q => n0 ≤ q)) (F0 m pc lsA ((Value.int n :: r).map (pm_v n0 sa))) := by
    intro ty a0 kd h1' h2' h3' h4' h5' h6' h
    refine va_newa (D := D) hx hb (hts _ ha) h1' hK hP pm_w_D hS (fun q h => Nat.le_trans hn0 h) (n := n) (N' := n.toNatClampNeg) (a0 := a0) h4' hn rfl (Nat.le_trans (Nat.mul_le_mul hN h5') (by decide)) h1 h2 (hd.d rfl) (fun q cA H1 hK1 hP1 hD1 hS1 => ?_)
    have hcA : cA = ck kd := by
      have g1 := (hK.2 kd _ h2').2
      have g2 := (hK1.2 (pm_tys ck).length (cA, ty) (by rw [List.getElem?_append_right (Nat.le_refl _), Nat.sub_self]; rfl)).2
      exact h3' _ _ g2 g1
    subst hcA
    refine pm_size (fun hz => ?_)
    have hq : q = n0 + S.1 := pm_fresh (A := fun _ => True) hD1 hP1 (Nat.le_trans hz (Nat.add_le_add_right hsz _)) (by omega)
    subst hq
    rw [← h6', pm_w_push] at hP1
    exact h lsA H1 locs hl hP1 hS1
  cases t <;> simp only [pm_akd, Option.some.injEq, reduceCtorEq] at hkd
  · subst hkd
    exact fin .boolean (n.toNatClampNeg, .inl (fun _ => 0)) 3 rfl rfl (fun cA cB g1 g2 => Option.some.inj (g1.symm.trans g2)) (fun _ => rfl) (by decide) rfl h
  · subst hkd
    exact fin .char (n.toNatClampNeg, .inl (fun _ => 0)) 2 rfl rfl (fun cA cB g1 g2 => Option.some.inj (g1.symm.trans g2)) (fun _ => rfl) (by decide) rfl h
  · subst hkd
    exact fin .int (n.toNatClampNeg, .inl (fun _ => 0)) 0 rfl rfl (fun cA cB g1 g2 => Option.some.inj (g1.symm.trans g2)) (fun _ => rfl) (by decide) rfl h
  · subst hkd
    exact fin .long (n.toNatClampNeg, .inr (.inl (fun _ => 0))) 1 rfl rfl (fun cA cB g1 g2 => Option.some.inj (g1.symm.trans g2)) (fun _ => rfl) (by decide) rfl h
theorem so_ldc (B : pm_B p s m args meth c D ck n0 C cc nL own Ts G) {pc tg : Nat} {ls : pL} {st : List Value} {uc us : Nat} {S : pS} {i : Nat} (hd : pm_okI cc pc (.ldc i) tg) {o : Option Value} (hk : ∀ v, o = some v → pm_okK own Ts sa s i v) (h : pm_ki o (fun v => pm_X p l e R s m args below meth c D n0 sa ck nL mc ms al Q (pc + 2) ls (v :: st) uc us S)) : pm_X p l e R s m args below meth c D n0 sa ck nL mc ms al Q pc ls st uc us S := by
  intro lsA H locs hl hP hS
  obtain ⟨hx, hb, hml, hown, hts, hrt, hlocks, hex, hini, hK, hn0, hG⟩ := B
  rcases pm_ki_e h with ⟨x, h1, h⟩ | ⟨x, h1, h⟩
  · exact lv_ldc hx hb hown (hts _ (hk _ h1)) (hd.d rfl) (h lsA H locs hl hP hS)
  · obtain ⟨tx, hr⟩ := hk _ h1
    exact va_ldcS hx hb hown hr (hd.d rfl) (h lsA H locs hl hP hS)
theorem so_ldc_w (B : pm_B p s m args meth c D ck n0 C cc nL own Ts G) {pc tg : Nat} {ls : pL} {st : List Value} {uc us : Nat} {S : pS} {i : Nat} (hd : pm_okI cc pc (.ldc_w i) tg) {o : Option Value} (hk : ∀ v, o = some v → pm_okK own Ts sa s i v) (hni : ∀ k, o ≠ some (.retAddr k)) (h : pm_ki o (fun v => pm_X p l e R s m args below meth c D n0 sa ck nL mc ms al Q (pc + 3) ls (v :: st) uc us S)) : pm_X p l e R s m args below meth c D n0 sa ck nL mc ms al Q pc ls st uc us S := by
  intro lsA H locs hl hP hS
  obtain ⟨hx, hb, hml, hown, hts, hrt, hlocks, hex, hini, hK, hn0, hG⟩ := B
  rcases pm_ki_e h with ⟨x, h1, h⟩ | ⟨x, h1, h⟩
  · exact lv_ldcw hx hb hown (hts _ (hk _ h1)) (hd.d rfl) (h lsA H locs hl hP hS)
  · exact (hni _ h1).elim
theorem so_ldc2_w (B : pm_B p s m args meth c D ck n0 C cc nL own Ts G) {pc tg : Nat} {ls : pL} {st : List Value} {uc us : Nat} {S : pS} {i : Nat} (hd : pm_okI cc pc (.ldc2_w i) tg) {o : Option Value} (hk : ∀ v, o = some v → pm_okK own Ts sa s i v) (h : pm_kl o (fun v => pm_X p l e R s m args below meth c D n0 sa ck nL mc ms al Q (pc + 3) ls (.long v :: st) uc us S)) : pm_X p l e R s m args below meth c D n0 sa ck nL mc ms al Q pc ls st uc us S := by
  intro lsA H locs hl hP hS
  obtain ⟨hx, hb, hml, hown, hts, hrt, hlocks, hex, hini, hK, hn0, hG⟩ := B
  obtain ⟨x, h1, h⟩ := pm_kl_e h
  exact lv_ldc2 hx hb hown (hts _ (hk _ h1)) (hd.d rfl) (h lsA H locs hl hP hS)
theorem so_cpy {e0 : Env} {d : Nat} (B : pm_B p s m args meth c D ck n0 C cc nL own Ts G) (hT : pm_TW TW Ts) {pc tg : Nat} {ls : pL} {st : List Value} {uc us : Nat} {S : pS} {i : Nat} (hd : pm_okI cc pc (.invokestatic i) tg) (hlk : Cond.methodLink own i arraycopyName ∈ TW) (hna : Cond.native arraycopyName ∈ TW) (hst : Cond.static arraycopyName ∈ TW) (hin : Cond.initialized "java/lang/System" ∈ TW)
    (h : 3 ≤ d ∧ pm_cpy S st (fun b e r => r.length ≤ 4 ∧ pm_X p l e0 (pm_R d mc ms) s m args below meth c D n0 sa ck nL mc ms al Q (pc + 3) ls r uc us (pm_up S b e))) : pm_X p l e0 (pm_R d mc ms) s m args below meth c D n0 sa ck nL mc ms al Q pc ls st uc us S := by
  intro lsA H locs hl hP hS
  obtain ⟨hd3, h⟩ := h
  unfold pm_cpy at h
  split at h
  · rename_i n dp b sp a r
    obtain ⟨ha, na, g, hg, h⟩ := pm_ar_e h
    obtain ⟨hb', nb, f, hf, h1, h2, h3, h4, h5, h6, h⟩ := pm_ar_e h
    obtain ⟨hx, hb, hml, hown, hts, hrt, hlocks, hex, hini, hK, hn0, hG⟩ := B
    refine va_copyi (c0 := ck 0) (c1 := ck 0) (n0 := na) (n1 := nb) (f := g) (g := f) (ty := .int) hx hb (by rw [hml]; exact hl.2.1.symm) hown (hts _ (hT.1 _ hlk)) (hts _ (hT.1 _ hna)) (hts _ (hT.1 _ hst)) (hts _ (hT.1 _ hin)) hK hP pm_w_D hS a b 0 0 (by rw [pm_w_get ha, hg]; rfl) (by rw [pm_w_get hb', hf]; rfl) rfl rfl rfl h1 h2 h3 h4 h5 (fun _ _ => rfl) (by show 1 ≤ d; omega) (by have := pm_rest4 (n0 := n0) (sa := sa) h6; show _ ≤ 40 * d; have e9 : nativeFrameWords "java/lang/System" "arraycopy" 5 = 7 := (by decide); rw [e9]; omega) (hd.d rfl) (fun H1 locs1 hP1 _ hS1 => ?_)
    exact h lsA H1 locs1 hl ((pm_w_set (n0 := n0) (sa := sa) (ck := ck) (S := S) (i := b) (.inl (0, nb, .inl (va_cpy g f sp.toNatClampNeg dp.toNatClampNeg n.toNatClampNeg)))) ▸ hP1) hS1
  · exact h.elim
/-- a throw: new, dup, ldc, invokespecial, athrow -/
def pm_okX (l : Launch) (cc : ByteArray) (own : String) (n0 : Nat) (s : State) (args : Array Value) (pc : Nat) (E : String) : Prop := ∃ (text : String) (names : List String) (ik is ic a ix : Nat) (rx : ByteArray), l.stackTraces = false ∧ (decode rx 0 = .ok (.aload_n 0, 1) ∧ decode rx 1 = .ok (.aload_n 1, 1) ∧ decode rx 2 = .ok (.invokespecial ix, 3) ∧ decode rx 5 = .ok (.return_, 1)) ∧ Bundle.fit E = true ∧ (∀ n ∈ names, Bundle.fit n = true) ∧ names.length ≤ 3 ∧ (Cond.classLink own ik E).before args s = true ∧ (Cond.initialized E).before args s = true ∧ vk_R own is text a s ∧ (∀ w ∈ xn_at own ic E ix rx names, w.before args s = true) ∧ (∀ w ∈ Cond.classLink own ik E :: Cond.initialized E :: xn_at own ic E ix rx names, vx_ot w = true) ∧
  vx_Zq Bundle.tN "UNASSIGNED_STACK" Bundle.steD (fun q => n0 ≤ q) s s.heap ∧ vx_Zq Bundle.tN "SUPPRESSED_SENTINEL" Bundle.listD (fun q => n0 ≤ q) s s.heap ∧
  decode cc pc = .ok (.new ik, 3) ∧ decode cc (pc + 3) = .ok (.dup, 1) ∧ ((decode cc (pc + 4) = .ok (.ldc is, 2) ∧ decode cc (pc + 6) = .ok (.invokespecial ic, 3) ∧ decode cc (pc + 9) = .ok (.athrow, 1)) ∨ (decode cc (pc + 4) = .ok (.ldc_w is, 3) ∧ decode cc (pc + 7) = .ok (.invokespecial ic, 3) ∧ decode cc (pc + 10) = .ok (.athrow, 1)))
theorem so_throw {d : Nat} (B : pm_B p s m args meth c D ck n0 C cc nL own Ts G) {pc : Nat} {ls : pL} {st : List Value} {uc us : Nat} {S : pS} {E : String} (hX : pm_okX l cc own n0 s args pc E)
    (h : 7 ≤ d ∧ st.length ≤ 4 ∧ uc + 1 ≤ mc ∧ us + 6 ≤ ms ∧ Q (.inr E) S) : pm_X p l e (pm_R d mc ms) s m args below meth c D n0 sa ck nL mc ms al Q pc ls st uc us S := by
  intro lsA H locs hl hP hS
  obtain ⟨h1, h2, h3, h4, h⟩ := h
  obtain ⟨text, names, ik, is, ic, a, ix, rx, x1, ⟨r0, r1, r2, r5⟩, x2, x3, x4, x5, x6, x7, x8, x9, x10, x11, d0, d3, dd⟩ := hX
  obtain ⟨hx, hb, hml, hown, hts, hrt, hlocks, hex, hini, hK, hn0, hG⟩ := B
  have hr4 := pm_rest4 (n0 := n0) (sa := sa) h2
  have hx9 : ∀ t : State, s.vm.Alike t.vm → H.size ≤ t.heap.size → (∀ q : Nat, q < H.size → t.heap[q]? = H[q]?) → pm_XC D n0 sa ck Q E s t := by
    intro t ht1 ht2 ht3
    refine ⟨⟨S, h, hP.kept (fun k q hk => ht3 _ (hP k q hk).lt)⟩, Nat.le_trans hS.1 ht2, fun q hq hn => ?_⟩
    rw [ht3 q (Nat.lt_of_lt_of_le hq hS.1)]
    exact hS.2.1 q hq hn
  rcases dd with ⟨d4, d6, d9⟩ | ⟨d4, d7, d10⟩
  · exact xn_throwS (names := names) hx hb x1 r0 r1 r2 r5 hown x2 x3 x5 x6 x7 x8 x9 x10 x11 hS (by rw [hml]; exact hl.2.1) d0 d3 d4 d6 d9 (fun x hx => (hex x hx).elim) (by show names.length + 3 < d; omega) (by show _ ≤ 40 * d; omega) h3 h4 hlocks hx9 hS.2.2 h3 h4
  · exact xn_throwSW (names := names) hx hb x1 r0 r1 r2 r5 hown x2 x3 x5 x6 x7 x8 x9 x10 x11 hS (by rw [hml]; exact hl.2.1) d0 d3 d4 d7 d10 (fun x hx => (hex x hx).elim) (by show names.length + 3 < d; omega) (by show _ ≤ 40 * d; omega) h3 h4 hlocks hx9 hS.2.2 h3 h4
end PMN
end
section
def pm_okM (own : String) (TW : List Cond) (Y : pY) (n0 : Nat) (sa : Nat → Nat) (s : State) (i : Nat) (q : Nat × Nat × Nat × Nat) : Prop :=
  (q.1 = 0 → pm_okY Y TW q.2.1 q.2.2.1 ∧ Cond.methodLink own i (Y q.2.1).1 ∈ TW ∧ Cond.static (Y q.2.1).1 ∈ TW) ∧
  (q.1 = 1 → pm_okY Y TW q.2.1 q.2.2.1 ∧ Cond.methodLink own i (Y q.2.1).1 ∈ TW ∧ Cond.instanceMethod (Y q.2.1).1 ∈ TW ∧ Cond.selects (Y q.2.1).1.cls (Y q.2.1).1 (Y q.2.1).1 ∈ TW ∧ ∃ (T : u_T) (N : Nat), vwCl[q.2.2.2]? = some ((Y q.2.1).1.cls, T, N)) ∧
  (q.1 = 2 → pm_okY Y TW q.2.1 q.2.2.1 ∧ (Y q.2.1).1.name = "<init>" ∧ (Y q.2.1).2.2.2 = none ∧ Cond.instanceMethod (Y q.2.1).1 ∈ TW ∧ ∃ host, va_Nw (.methodLinkNest own i (Y q.2.1).1 host) s) ∧
  (q.1 = 3 → Cond.methodLink own i Lib.objectInit ∈ TW ∧ Cond.instanceMethod Lib.objectInit ∈ TW ∧ Cond.code Lib.objectInit ⟨#[0xb1]⟩ 1 none ∈ TW) ∧
  (q.1 = 4 → Cond.methodLink own i arraycopyName ∈ TW ∧ Cond.native arraycopyName ∈ TW ∧ Cond.static arraycopyName ∈ TW ∧ Cond.initialized "java/lang/System" ∈ TW) ∧
  (q.1 = 6 → pm_okY Y TW q.2.1 q.2.2.1 ∧ Cond.methodLink own i (Y q.2.1).1 ∈ TW ∧ Cond.instanceMethod (Y q.2.1).1 ∈ TW ∧ Cond.selects (Y q.2.1).1.cls (Y q.2.1).1 (Y q.2.1).1 ∈ TW ∧ ∀ b H locs, va_S (fun q => n0 ≤ q) s.heap H locs → ∃ cell : Cell, H[sa b]? = some cell ∧ cell.vm.isStatics = false ∧ s.vm.findClass (Y q.2.1).1.cls = some cell.cls)
/-- all that a method's tables must be -/
def pm_T (l : Launch) (s : State) (args : Array Value) (n0 : Nat) (sa : Nat → Nat) (C : pC) (cc : ByteArray) (own : String) (Ts TW : List Cond) (Y : pY) : Prop :=
  (∀ pc ins tg, pc_in C pc = some (ins, tg) → pm_okI cc pc ins tg) ∧ (∀ i ci k, pc_fl C i = some (ci, k) → pm_okF own Ts (pc_ini C) i ci k) ∧ (∀ i q, pc_ml C i = some q → pm_okM own TW Y n0 sa s i q) ∧ (∀ i v, pc_kc C i = some v → pm_okK own Ts sa s i v) ∧ (∀ pc i tg, pc_in C pc = some (.ldc_w i, tg) → ∀ k, pc_kc C i ≠ some (.retAddr k)) ∧
  (∀ i ci fs, pc_nw C i = some (ci, fs) → pm_okN own Ts i ci fs) ∧ (∀ pc E, pc_th C pc = some E → pm_okX l cc own n0 s args pc E) ∧ (∀ t, Cond.arrayClass (newarray.typeOf t) ∈ Ts ∨ pm_akd t = none) ∧ pm_okC Ts ∧ pm_TW TW Ts
theorem pm_sound_step {p : Program} {l : Launch} {e : Env} {s : State} {m : MethodId} {args : Array Value} {below : List Frame} {meth : Method} {c : Code} {D : va_G} {n0 : Nat} {sa : Nat → Nat} {ck : Nat → ClassId} {nL mc ms : Nat} {al : Bool} {Q : pQ} {C : pC} {cc : ByteArray} {own : String} {Ts TW : List Cond} {G : State → Prop} {Y : pY} {cost : Nat → Nat × Nat × Bool} {d : Nat} (B : pm_B p s m args meth c D ck n0 C cc nL own Ts G) (hT : pm_T l s args n0 sa C cc own Ts TW Y) (hGm : pm_Gm n0 G) {call : pCall} (hcall : ∀ j as S Q, call j as S Q → pm_Met l D n0 sa ck G TW Y cost d j as S Q) {nxe : Nat} (hal : al = true → s.heap.size ≤ n0 + nxe)
    (pc : Nat) (ls : pL) (st : List Value) (uc us : Nat) (S : pS) (h : pm_step C (d + 1) call cost al nxe mc ms Q (fun pc ls st uc us S => uc ≤ mc ∧ us ≤ ms → pm_X p l e (pm_R (d + 1) mc ms) s m args below meth c D n0 sa ck nL mc ms al Q pc ls st uc us S) pc ls st uc us S) : uc ≤ mc ∧ us ≤ ms → pm_X p l e (pm_R (d + 1) mc ms) s m args below meth c D n0 sa ck nL mc ms al Q pc ls st uc us S := by
  intro hu
  obtain ⟨hI, hF, hM, hKc, hKw, hNw, hTh, hAr, hC, hTW⟩ := hT
  have hX : ∀ pc ls st uc us S, uc ≤ mc ∧ us ≤ ms → (uc ≤ mc ∧ us ≤ ms → pm_X p l e (pm_R (d + 1) mc ms) s m args below meth c D n0 sa ck nL mc ms al Q pc ls st uc us S) → pm_X p l e (pm_R (d + 1) mc ms) s m args below meth c D n0 sa ck nL mc ms al Q pc ls st uc us S := fun _ _ _ _ _ _ hb h => h hb
  unfold pm_step at h
  cases hin : pc_in C pc with
  | none => rw [hin] at h; exact h.elim
  | some q =>
    obtain ⟨ins, tg⟩ := q
    rw [hin] at h
    have hd := hI _ _ _ hin
    cases ins with
    | iconst n => exact so_iconst B hd (h hu)
    | bipush n => exact so_bipush B hd (h hu)
    | sipush n => exact so_sipush B hd (h hu)
    | lconst n => exact so_lconst B hd (h hu)
    | ldc i => exact so_ldc B hd (fun v hv => hKc _ _ hv) (pm_ki_m (fun _ q => q hu) h)
    | ldc_w i => exact so_ldc_w B hd (fun v hv => hKc _ _ hv) (hKw _ _ _ hin) (pm_ki_m (fun _ q => q hu) h)
    | ldc2_w i => exact so_ldc2_w B hd (fun v hv => hKc _ _ hv) (pm_kl_m (fun _ q => q hu) h)
    | iload i => exact so_iload B hd (pm_gi_m (fun _ q => q hu) h)
    | iload_n i => exact so_iload_n B hd (pm_gi_m (fun _ q => q hu) h)
    | lload i => exact so_lload B hd (pm_gl_m (fun _ q => q hu) h)
    | lload_n i => exact so_lload_n B hd (pm_gl_m (fun _ q => q hu) h)
    | aload i => exact so_aload B hd (pm_ga_m (fun _ q => q hu) h)
    | aload_n i => exact so_aload_n B hd (pm_ga_m (fun _ q => q hu) h)
    | istore i => exact so_istore B hd (pm_i_m (fun _ _ q => ⟨q.1, q.2 hu⟩) h)
    | istore_n i => exact so_istore_n B hd (pm_i_m (fun _ _ q => ⟨q.1, q.2 hu⟩) h)
    | lstore i => exact so_lstore B hd (pm_l_m (fun _ _ q => ⟨q.1, q.2 hu⟩) h)
    | lstore_n i => exact so_lstore_n B hd (pm_l_m (fun _ _ q => ⟨q.1, q.2 hu⟩) h)
    | astore i => exact so_astore B hd (pm_a_m (fun _ _ q => ⟨q.1, q.2 hu⟩) h)
    | astore_n i => exact so_astore_n B hd (pm_a_m (fun _ _ q => ⟨q.1, q.2 hu⟩) h)
    | iinc i n => exact so_iinc B hd (pm_gi_m (fun _ q => ⟨q.1, q.2 hu⟩) h)
    | iadd => exact so_iadd B hd (pm_ii_m (fun _ _ _ q => q hu) h)
    | isub => exact so_isub B hd (pm_ii_m (fun _ _ _ q => q hu) h)
    | imul => exact so_imul B hd (pm_ii_m (fun _ _ _ q => q hu) h)
    | idiv => exact so_idiv B hd (pm_ii_m (fun _ _ _ q => ⟨q.1, q.2 hu⟩) h)
    | irem => exact so_irem B hd (pm_ii_m (fun _ _ _ q => ⟨q.1, q.2 hu⟩) h)
    | iand => exact so_iand B hd (pm_ii_m (fun _ _ _ q => q hu) h)
    | ior => exact so_ior B hd (pm_ii_m (fun _ _ _ q => q hu) h)
    | ixor => exact so_ixor B hd (pm_ii_m (fun _ _ _ q => q hu) h)
    | ishl => exact so_ishl B hd (pm_ii_m (fun _ _ _ q => q hu) h)
    | ishr => exact so_ishr B hd (pm_ii_m (fun _ _ _ q => q hu) h)
    | iushr => exact so_iushr B hd (pm_ii_m (fun _ _ _ q => q hu) h)
    | ladd => exact so_ladd B hd (pm_ll_m (fun _ _ _ q => q hu) h)
    | lsub => exact so_lsub B hd (pm_ll_m (fun _ _ _ q => q hu) h)
    | land => exact so_land B hd (pm_ll_m (fun _ _ _ q => q hu) h)
    | lor => exact so_lor B hd (pm_ll_m (fun _ _ _ q => q hu) h)
    | lxor => exact so_lxor B hd (pm_ll_m (fun _ _ _ q => q hu) h)
    | lshl => exact so_lshl B hd (pm_li_m (fun _ _ _ q => q hu) h)
    | lushr => exact so_lushr B hd (pm_li_m (fun _ _ _ q => q hu) h)
    | lcmp => exact so_lcmp B hd (pm_ll_m (fun _ _ _ q => q hu) h)
    | i2l => exact so_i2l B hd (pm_i_m (fun _ _ q => q hu) h)
    | l2i => exact so_l2i B hd (pm_l_m (fun _ _ q => q hu) h)
    | i2c => exact so_i2c B hd (pm_i_m (fun _ _ q => q hu) h)
    | dup => exact so_dup B hd (pm_dup_m (fun _ _ q => q hu) h)
    | pop => exact so_pop B hd (pm_dup_m (fun _ _ q => q hu) h)
    | dup2 => exact so_dup2 B hd (pm_dup2_m (fun _ _ _ q => q hu) h)
    | goto o => exact so_goto B hd (h hu)
    | ifCond cd o => exact so_ifCond B hd (pm_i_m (fun _ _ => pm_cd_m (fun q => q hu) (fun q => q hu)) h)
    | if_icmp cd o => exact so_if_icmp B hd (pm_ii_m (fun _ _ _ => pm_cd_m (fun q => q hu) (fun q => q hu)) h)
    | tableswitch df lo hi os => exact so_tableswitch B hd (pm_i_m (fun _ _ => pm_sw_m (fun _ q => q hu)) h)
    | getfield i =>
      obtain ⟨⟨ci, k⟩, hq, h1⟩ := pm_o_e h
      exact so_getfield B hC hd (hF _ _ _ hq) (pm_r_m (fun _ _ => pm_ob_m (fun _ => pm_o_m (fun _ q => q hu))) h1)
    | putfield i =>
      obtain ⟨⟨ci, k⟩, hq, h1⟩ := pm_o_e h
      exact so_putfield B hC hd (hF _ _ _ hq) (pm_vr_m (fun _ _ _ => pm_ob_m (fun _ z => ⟨z.1, pm_o_m (fun _ q => ⟨q.1, q.2.1, q.2.2 hu⟩) z.2⟩)) h1)
    | iaload => exact so_iaload B hd (pm_ir_m (fun _ _ _ => pm_ar_m (fun _ _ => pm_ix_m (fun q => q hu))) h)
    | caload => exact so_caload B hd (pm_ir_m (fun _ _ _ => pm_ar_m (fun _ _ => pm_ix_m (fun q => q hu))) h)
    | baload => exact so_baload B hd (pm_ir_m (fun _ _ _ => pm_ar_m (fun _ _ => pm_ix_m (fun q => q hu))) h)
    | laload => exact so_laload B hd (pm_ir_m (fun _ _ _ => pm_aj_m (fun _ _ => pm_ix_m (fun q => q hu))) h)
    | iastore => exact so_iastore B hd (pm_iir_m (fun _ _ _ _ => pm_ar_m (fun _ _ => pm_ix_m (fun q => q hu))) h)
    | castore => exact so_castore B hd (pm_iir_m (fun _ _ _ _ => pm_ar_m (fun _ _ => pm_ix_m (fun q => q hu))) h)
    | bastore => exact so_bastore B hd (pm_iir_m (fun _ _ _ _ => pm_ar_m (fun _ _ => pm_ix_m (fun q => q hu))) h)
    | lastore => exact so_lastore B hd (pm_lir_m (fun _ _ _ _ => pm_aj_m (fun _ _ => pm_ix_m (fun q => q hu))) h)
    | arraylength => exact so_arraylength B hd (pm_r_m (fun _ _ => pm_an_m (fun _ q => q hu)) h)
    | invokestatic i =>
      obtain ⟨q, hq, h1⟩ := pm_o_e h
      obtain ⟨m0, m1, m2, m3, m4, m6⟩ := hM _ _ hq
      rcases h1 with ⟨hk, h1⟩ | ⟨hk, hd3, h1⟩
      · obtain ⟨g1, g2, g3⟩ := m0 hk
        exact so_static B hTW hGm hcall hal hX hd g1 g2 g3 h1
      · obtain ⟨g1, g2, g3, g4⟩ := m4 hk
        exact so_cpy B hTW hd g1 g2 g3 g4 ⟨hd3, pm_cpy_m (fun _ _ _ z => ⟨z.1, z.2 hu⟩) h1⟩
    | invokevirtual i =>
      obtain ⟨q, hq, h1⟩ := pm_o_e h
      obtain ⟨m0, m1, m2, m3, m4, m6⟩ := hM _ _ hq
      rcases h1 with ⟨hk, h1⟩ | ⟨hk, h1⟩
      · obtain ⟨g1, g2, g3, g4, T, N, g5⟩ := m1 hk
        exact so_virtual B hTW hGm hcall hal hX hd g1 g2 g3 g4 g5 h1
      · obtain ⟨g1, g2, g3, g4, g5⟩ := m6 hk
        exact so_text B hTW hGm hcall hal hX hd g1 g2 g3 g4 g5 h1
    | invokespecial i =>
      obtain ⟨q, hq, h1⟩ := pm_o_e h
      obtain ⟨m0, m1, m2, m3, m4, m6⟩ := hM _ _ hq
      rcases h1 with ⟨hk, hd2, h1⟩ | ⟨hk, h1⟩
      · obtain ⟨g1, g2, g3⟩ := m3 hk
        exact so_objInit B hTW hd g1 g2 g3 ⟨hd2, pm_r_m (fun _ _ z => ⟨z.1, z.2.1, z.2.2 hu⟩) h1⟩
      · obtain ⟨g1, g2, g3, g4, host, g5⟩ := m2 hk
        exact so_init B hTW hGm hcall hal hX hd g1 g2 g3 g5 g4 h1
    | new i =>
      cases hth : pc_th C pc with
      | some E =>
        dsimp only at h
        rw [hth] at h
        exact so_throw B (hTh _ _ hth) h
      | none =>
        dsimp only at h
        rw [hth] at h
        obtain ⟨⟨ci, fs⟩, hq, h1, h2, h3, h4⟩ := pm_o_e h
        exact so_new B hC hal hd (hNw _ _ _ hq) ⟨h1, h2, h3, h4 ⟨h1, h2⟩⟩
    | newarray t =>
      refine so_newarray B hal hd ?_ (pm_o_m (fun _ => pm_i_m (fun _ _ z => ⟨z.1, z.2.1, z.2.2.1, z.2.2.2.1, z.2.2.2.2.1, z.2.2.2.2.2 ⟨z.2.2.1, z.2.2.2.1⟩⟩)) h)
      rcases hAr t with g | g
      · exact g
      · obtain ⟨_, hq, -⟩ := pm_o_e h
        rw [g] at hq
        cases hq
    | ireturn => exact so_ireturn B hu hd h
    | lreturn => exact so_lreturn B hu hd h
    | return_ => exact so_return B hu hd h
    | _ => exact h.elim
def pm_slt (n0 : Nat) (sa : Nat → Nat) (o : Option Value) : Slot := match o with
  | some v => .val (pm_v n0 sa v)
  | none => .second
theorem pm_sl_map (n0 : Nat) (sa : Nat → Nat) (as : List Value) : lg_sl (as.map (pm_v n0 sa)) = (as.flatMap pm_sl).map (pm_slt n0 sa) := by
  induction as with
  | nil => rfl
  | cons v t ih =>
    have e1 : lg_sl ((v :: t).map (pm_v n0 sa)) = (if (pm_v n0 sa v).category = 2 then [Slot.val (pm_v n0 sa v), .second] else [.val (pm_v n0 sa v)]) ++ lg_sl (t.map (pm_v n0 sa)) := rfl
    have e2 : (v :: t).flatMap pm_sl = pm_sl v ++ t.flatMap pm_sl := rfl
    rw [e1, e2, ih, List.map_append, pm_v_cat]
    congr 1
    unfold pm_sl
    split <;> rfl
theorem pm_ent_lr {n0 : Nat} {sa : Nat → Nat} {nL : Nat} {as : List Value} (hlen : (as.flatMap pm_sl).length ≤ nL) : pm_lr n0 sa (lg_sl (as.map (pm_v n0 sa)) ++ List.replicate (nL - (lg_sl (as.map (pm_v n0 sa))).length) Slot.unset).toArray nL (pm_ent nL as) := by
  have hl := lv_entry (as.map (pm_v n0 sa)) (n := nL) (by rw [pm_sl_map, List.length_map]; exact hlen)
  refine ⟨by unfold pm_ent; rw [List.length_append, List.length_replicate]; omega, hl.1, hl.2.1, fun i v hi => ?_⟩
  unfold pm_get pm_ent at hi
  rw [List.getElem?_toArray, pm_sl_map]
  by_cases h : i < (as.flatMap pm_sl).length
  · rw [List.getElem?_append_left h] at hi
    rw [List.getElem?_append_left (by rw [List.length_map]; exact h), List.getElem?_map]
    cases hq : (as.flatMap pm_sl)[i]? with
    | none => rw [hq] at hi; cases hi
    | some o =>
      rw [hq] at hi
      cases o with
      | none => cases hi
      | some w => cases hi; rfl
  · rw [List.getElem?_append_right (Nat.not_lt.mp h), List.getElem?_replicate] at hi
    split at hi <;> cases hi
/-- a method at a depth: what the pure machine says of it the machine does -/
theorem pm_sound_body {l : Launch} {D : va_G} {n0 : Nat} {sa : Nat → Nat} {ck : Nat → ClassId} {G : State → Prop} {TW : List Cond} {Y : pY} {cost : Nat → Nat × Nat × Bool} {d j : Nat} {C : pC} {own : String} (hGm : pm_Gm n0 G) (hown : (Y j).1.cls = own) (hpl : plainName (Y j).1.cls = true) (hrt : (Y j).2.2.2 = pc_rt C) (hini : pc_ini C = true → (Y j).1.name = "<init>")
    (hT : ∀ s args, (∀ w ∈ pm_ws Y TW j, w.before args s = true) → G s → pm_T l s args n0 sa C (Y j).2.1 own (pm_ws Y TW j) TW Y) {call : pCall} (hcall : ∀ j as S Q, call j as S Q → pm_Met l D n0 sa ck G TW Y cost d j as S Q) {as : List Value} {S : pS} {Q : pQ} (hlen : (as.flatMap pm_sl).length ≤ (Y j).2.2.1)
    (h : pm_ev C (d + 1) call cost (cost j).2.2 S.1 (cost j).1 (cost j).2.1 Q 0 (pm_ent (Y j).2.2.1 as) [] 0 0 S) : pm_Met l D n0 sa ck G TW Y cost (d + 1) j as S Q := by
  refine vx_ofW (cc := (Y j).2.1) (maxL := (Y j).2.2.1) (ret := (Y j).2.2.2) hpl rfl ?_
  intro p e s m args below meth c s₁ Bd hml hex hv
  obtain ⟨rfl, hn0, hsz, hP, hK, hG⟩ := hv
  have hts := atoms_spec (ws := pm_ws Y TW j) Bd.pre
  have hownc : s.vm.findClass own = some m.cls := by rw [← hown]; exact findClass_of_methodNamed Bd.named
  have B : pm_B p s m (as.map (pm_v n0 sa)).toArray meth c D ck n0 C (Y j).2.1 (Y j).2.2.1 own (pm_ws Y TW j) G := ⟨Bd.exec, Bd.bytes, hml, hownc, hts, Bd.returns.trans hrt, Bd.notSynchronized, hex, fun q => (name_of_methodNamed Bd.named Bd.method).1.trans (hini q), hK, hn0, hG⟩
  have key := h (fun pc ls st uc us S => uc ≤ (cost j).1 ∧ us ≤ (cost j).2.1 → pm_X p l e (pm_R (d + 1) (cost j).1 (cost j).2.1) s m (as.map (pm_v n0 sa)).toArray below meth c D n0 sa ck (Y j).2.2.1 (cost j).1 (cost j).2.1 (cost j).2.2 Q pc ls st uc us S) (fun pc ls st uc us S' q => pm_sound_step B (hT s _ hts hG) hGm hcall hsz pc ls st uc us S' q) ⟨Nat.zero_le _, Nat.zero_le _⟩
  rw [lg_entry_eq]
  exact key _ s.heap [] (pm_ent_lr hlen) hP va_S.rf
/-- THE CARRYING OVER: every call of the pure machine is the machine's -/
theorem pm_sound {l : Launch} {D : va_G} {n0 : Nat} {sa : Nat → Nat} {ck : Nat → ClassId} {G : State → Prop} {TW : List Cond} {Y : pY} {cost : Nat → Nat × Nat × Bool} {M : Nat → Option (pC × Nat)} {ext : pCall} (hGm : pm_Gm n0 G)
    (hM : ∀ j C nL, M j = some (C, nL) → nL = (Y j).2.2.1 ∧ plainName (Y j).1.cls = true ∧ (Y j).2.2.2 = pc_rt C ∧ (pc_ini C = true → (Y j).1.name = "<init>") ∧ ∀ s args, (∀ w ∈ pm_ws Y TW j, w.before args s = true) → G s → pm_T l s args n0 sa C (Y j).2.1 (Y j).1.cls (pm_ws Y TW j) TW Y)
    (hE : ∀ d j as S Q, 8 ≤ d → M j = none → ext j as S Q → pm_Met l D n0 sa ck G TW Y cost (d + 1) j as S Q) : ∀ d j as S Q, pm_call M cost ext d j as S Q → pm_Met l D n0 sa ck G TW Y cost d j as S Q := by
  intro d
  induction d with
  | zero => exact fun _ _ _ _ h => h.elim
  | succ d ih =>
    intro j as S Q h
    unfold pm_call at h
    cases hm : M j with
    | none => rw [hm] at h; exact hE d j as S Q h.1 hm h.2
    | some q =>
      obtain ⟨C, nL⟩ := q
      rw [hm] at h
      obtain ⟨e1, e2, e3, e4, e5⟩ := hM j C nL hm
      subst e1
      exact pm_sound_body hGm rfl e2 e3 e4 e5 ih h.1 h.2
end
section
def pm_lk1 {α : Type} : List (Nat × α) → Nat → Option α
  | [], _ => none
  | (k, v) :: r, i => if k = i then some v else pm_lk1 r i
def pm_lk2 {α : Type} : List (Nat × List (Nat × α)) → Nat → Option α
  | [], _ => none
  | (b, c) :: r, i => if i < b then pm_lk1 c i else pm_lk2 r i
theorem pm_lk1_mem {α : Type} {l : List (Nat × α)} {i : Nat} {v : α} (h : pm_lk1 l i = some v) : (i, v) ∈ l := by
  induction l with
  | nil => cases h
  | cons q r ih =>
    obtain ⟨k, w⟩ := q
    unfold pm_lk1 at h
    split at h
    · rename_i hk
      subst hk
      cases h
      exact List.mem_cons_self
    · exact List.mem_cons_of_mem _ (ih h)
theorem pm_lk2_mem {α : Type} {l : List (Nat × List (Nat × α))} {i : Nat} {v : α} (h : pm_lk2 l i = some v) : ∃ q ∈ l, (i, v) ∈ q.2 := by
  induction l with
  | nil => cases h
  | cons q r ih =>
    obtain ⟨b, c⟩ := q
    unfold pm_lk2 at h
    split at h
    · exact ⟨(b, c), List.mem_cons_self, pm_lk1_mem h⟩
    · obtain ⟨q, h1, h2⟩ := ih h
      exact ⟨q, List.mem_cons_of_mem _ h1, h2⟩
def pm_ckI (cc : ByteArray) (q : Nat × Instr × Nat) : Bool := match decode cc q.1 with
  | .ok (i, len) => decide (i = q.2.1) && ((pm_len q.2.1 == 0 || len == pm_len q.2.1) && (match pm_off q.2.1 with
    | some o => decide ((q.1 : Int) + o = (q.2.2 : Int))
    | none => true))
  | .error _ => false
theorem pm_ckI_ok {cc : ByteArray} {l : List (Nat × List (Nat × Instr × Nat))} (h : l.all (fun q => q.2.all (pm_ckI cc)) = true) : ∀ pc ins tg, pm_lk2 l pc = some (ins, tg) → pm_okI cc pc ins tg := by
  intro pc ins tg hl
  obtain ⟨q, h1, h2⟩ := pm_lk2_mem hl
  have h3 := List.all_eq_true.mp (List.all_eq_true.mp h q h1) _ h2
  unfold pm_ckI at h3
  dsimp only at h3
  cases hd : decode cc pc with
  | error e => rw [hd] at h3; cases h3
  | ok v =>
    obtain ⟨i, len⟩ := v
    rw [hd] at h3
    simp only [Bool.and_eq_true, decide_eq_true_eq, Bool.or_eq_true, beq_iff_eq] at h3
    obtain ⟨e1, e2, e3⟩ := h3
    subst e1
    refine ⟨⟨len, hd, e2⟩, fun o ho => ?_⟩
    rw [ho] at e3
    simpa using e3
/-- the words that stay -/
def TW : List Cond := lw_tbl.filter goodWord
/-- the words in ten lists -/
def lw_ch : Nat → List Cond
  | 0 => k2_sels lw_privs
  | 1 => tables_1_1
  | 2 => tables_1_2
  | 3 => tables_1_3
  | 4 => tables_1_4
  | 5 => tables_1_5
  | 6 => tables_1_6
  | 7 => tables_1_7
  | 8 => tables_1_8
  | 9 => tables_1_9
  | _ => []
theorem lw_ch_in : ∀ (k : Nat) (w : Cond), w ∈ lw_ch k → w ∈ lw_tbl := by
  intro k w h
  have e : lw_tbl = k2_sels lw_privs ++ (tables_1_1 ++ (tables_1_2 ++ (tables_1_3 ++ (tables_1_4 ++ (tables_1_5 ++ (tables_1_6 ++ (tables_1_7 ++ (tables_1_8 ++ tables_1_9)))))))) := rfl
  rw [e]
  match k, h with
  | 0, h => exact List.mem_append_left _ h
  | 1, h => exact List.mem_append_right _ (List.mem_append_left _ h)
  | 2, h => exact List.mem_append_right _ (List.mem_append_right _ (List.mem_append_left _ h))
  | 3, h => exact List.mem_append_right _ (List.mem_append_right _ (List.mem_append_right _ (List.mem_append_left _ h)))
  | 4, h => exact List.mem_append_right _ (List.mem_append_right _ (List.mem_append_right _ (List.mem_append_right _ (List.mem_append_left _ h))))
  | 5, h => exact List.mem_append_right _ (List.mem_append_right _ (List.mem_append_right _ (List.mem_append_right _ (List.mem_append_right _ (List.mem_append_left _ h)))))
  | 6, h => exact List.mem_append_right _ (List.mem_append_right _ (List.mem_append_right _ (List.mem_append_right _ (List.mem_append_right _ (List.mem_append_right _ (List.mem_append_left _ h))))))
  | 7, h => exact List.mem_append_right _ (List.mem_append_right _ (List.mem_append_right _ (List.mem_append_right _ (List.mem_append_right _ (List.mem_append_right _ (List.mem_append_right _ (List.mem_append_left _ h)))))))
  | 8, h => exact List.mem_append_right _ (List.mem_append_right _ (List.mem_append_right _ (List.mem_append_right _ (List.mem_append_right _ (List.mem_append_right _ (List.mem_append_right _ (List.mem_append_right _ (List.mem_append_left _ h))))))))
  | 9, h => exact List.mem_append_right _ (List.mem_append_right _ (List.mem_append_right _ (List.mem_append_right _ (List.mem_append_right _ (List.mem_append_right _ (List.mem_append_right _ (List.mem_append_right _ (List.mem_append_right _ h))))))))
  | k + 10, h => exact absurd h List.not_mem_nil
def inT (pos : Nat) (w : Cond) : Bool := decide ((lw_ch (pos / 1000))[pos % 1000]? = some w) && goodWord w
theorem inT_ok {pos : Nat} {w : Cond} (h : inT pos w = true) : w ∈ TW := by
  simp only [inT, Bool.and_eq_true, decide_eq_true_eq] at h
  exact List.mem_filter.mpr ⟨lw_ch_in _ _ (List.mem_of_getElem? h.1), h.2⟩
theorem TW_ok (Ts : List Cond) (c : Cond) : pm_TW TW (c :: TW) := ⟨fun w h => List.mem_cons_of_mem _ h, fun w h => good_of_word (List.mem_filter.mp h).2⟩
def ckF (own : String) (ini : Bool) (q : Nat × (Nat × Nat) × Nat) : Bool := match vwCl[q.2.1.1]? with
  | some (_, T, N) => decide (q.2.1.2 < N) && (inT q.2.2 (.fieldLink own q.1 (T q.2.1.2).1 (T q.2.1.2).2.1 (T q.2.1.2).2.2.1) && (!ini || (!(T q.2.1.2).2.2.2 || decide ((T q.2.1.2).1 = own))))
  | none => false
theorem ckF_ok {own : String} {ini : Bool} {l : List (Nat × (Nat × Nat) × Nat)} (h : l.all (ckF own ini) = true) {i ci k : Nat} (hl : (pm_lk1 l i).map Prod.fst = some (ci, k)) {c : Cond} : pm_okF own (c :: TW) ini i ci k := by
  cases hq : pm_lk1 l i with
  | none => rw [hq] at hl; cases hl
  | some v =>
    obtain ⟨⟨ci', k'⟩, pos⟩ := v
    rw [hq] at hl
    cases hl
    have h3 := List.all_eq_true.mp h _ (pm_lk1_mem hq)
    unfold ckF at h3
    dsimp only at h3
    cases hc : vwCl[ci]? with
    | none => rw [hc] at h3; cases h3
    | some w =>
      obtain ⟨C', T, N⟩ := w
      rw [hc] at h3
      simp only [Bool.and_eq_true, decide_eq_true_eq, Bool.or_eq_true, Bool.not_eq_true'] at h3
      refine ⟨C', T, N, hc, h3.1, List.mem_cons_of_mem _ (inT_ok h3.2.1), fun h1 h2 => ?_⟩
      rcases h3.2.2 with g | g | g
      · rw [h1] at g; cases g
      · rw [h2] at g; cases g
      · exact g
end
section
def ytab : List (MethodName × ByteArray × Nat × Option FieldType) := [(yX0_init, cX0_init, 1, none), (yX0_clearActs, cX0_clearActs, 1, none), (yX0_clearNotes, cX0_clearNotes, 1, none), (yX0_keep, cX0_keep, 2, none), (yX0_takeBack, cX0_takeBack, 2, none), (yX0_add, cX0_add, 4, none), (yX0_copyFrom, cX0_copyFrom, 2, none), (yX0_agrees, cX0_agrees, 4, (some .boolean)), (yX1_init, cX1_init, 1, none), (yX1_search, cX1_search, 7, none), (yX1_holdsAll, cX1_holdsAll, 6, (some .boolean)), (yX1_addPlaces, cX1_addPlaces, 4, none), (yX2_init, cX2_init, 1, none), (yX2_passHours, cX2_passHours, 5, none), (yX2_passHour, cX2_passHour, 5, none), (yX2_hurt, cX2_hurt, 5, none), (yX2_wantsToGo, cX2_wantsToGo, 4, (some .boolean)), (yX2_go, cX2_go, 5, none), (yX2_setValues, cX2_setValues, 4, none), (yX3_init, cX3_init, 1, none), (yX3_clear, cX3_clear, 1, none), (yX3_cells, cX3_cells, 1, (some .int)), (yX3_lightOf, cX3_lightOf, 2, (some .int)), (yX3_isDull, cX3_isDull, 2, (some .boolean)), (yX3_stepOf, cX3_stepOf, 4, (some .int)), (yX3_seatsAt, cX3_seatsAt, 4, (some .int)), (yX3_isWall, cX3_isWall, 2, (some .boolean)), (yX3_isStart, cX3_isStart, 3, (some .boolean)), (yX3_beside, cX3_beside, 4, (some .int)), (yX4_init, cX4_init, 1, none), (yX4_read, cX4_read, 6, (some .int)), (yX4_readTable, cX4_readTable, 4, (some .int)), (yX4_sideFault, cX4_sideFault, 1, (some .int)), (yX4_readStop, cX4_readStop, 1, (some .int)), (yX4_readLine, cX4_readLine, 3, (some .int)), (yX4_cellFault, cX4_cellFault, 2, (some .int)), (yX4_readWall, cX4_readWall, 3, (some .int)), (yX4_readFigure, cX4_readFigure, 5, (some .int)), (yX4_readSeat, cX4_readSeat, 3, (some .int)), (yX4_readLight, cX4_readLight, 4, (some .int)), (yX4_readRow, cX4_readRow, 6, (some .int)), (yX4_readDull, cX4_readDull, 2, (some .int)), (yX5_init, cX5_init, 1, none), (yX5_clear, cX5_clear, 1, none), (yX5_isTold, cX5_isTold, 1, (some .boolean)), (yX5_add, cX5_add, 2, none), (yX5_value, cX5_value, 5, (some .int)), (yX5_join, cX5_join, 3, (some .int)), (yX6_init, cX6_init, 1, none), (yX6_read, cX6_read, 6, (some .int)), (yX6_isEnd, cX6_isEnd, 2, (some .boolean)), (yX6_beginPart, cX6_beginPart, 2, none), (yX6_readPart, cX6_readPart, 5, (some .int)), (yX6_readNumber, cX6_readNumber, 3, (some .int)), (yX6_readWord, cX6_readWord, 5, (some .int)), (yX6_valueOf, cX6_valueOf, 2, (some .int)), (yX6_readOperator, cX6_readOperator, 6, (some .int)), (yX6_operatorOf, cX6_operatorOf, 1, (some .int)), (yX6_rankOf, cX6_rankOf, 1, (some .int)), (yX6_push, cX6_push, 2, none), (yX6_release, cX6_release, 3, none), (yX7_init, cX7_init, 1, none), (yX7_place, cX7_place, 6, none), (yX7_measureAll, cX7_measureAll, 6, none), (yX7_bestFrom, cX7_bestFrom, 6, (some .int)), (yX7_worthAt, cX7_worthAt, 5, (some .int)), (yX7_choose, cX7_choose, 5, none), (yX8_init, cX8_init, 1, none), (yX8_begin, cX8_begin, 2, none), (yX8_copyFrom, cX8_copyFrom, 2, none), (yX8_saveTo, cX8_saveTo, 3, none), (yX8_loadFrom, cX8_loadFrom, 3, none), (yX8_isWall, cX8_isWall, 2, (some .boolean)), (yX8_figuresAt, cX8_figuresAt, 4, (some .int)), (yX8_othersWith, cX8_othersWith, 4, (some .int)), (yX8_aloneBits, cX8_aloneBits, 3, (some .int)), (yX8_placedAsBits, cX8_placedAsBits, 4, (some .int)), (yX8_isPlacedAs, cX8_isPlacedAs, 2, (some .boolean)), (yX8_places, cX8_places, 4, (some .long)), (yX8_soreOfAll, cX8_soreOfAll, 3, (some .int)), (yX8_heldBits, cX8_heldBits, 3, (some .int)), (yX9_init, cX9_init, 1, none), (yX9_add, cX9_add, 3, none), (yX9_begin, cX9_begin, 2, none), (yX9_advance, cX9_advance, 2, none), (yX9_readNumber, cX9_readNumber, 1, none), (yX9_isLetter, cX9_isLetter, 1, (some .boolean)), (yX9_isDigit, cX9_isDigit, 1, (some .boolean)), (yX9_hasManyDigits, cX9_hasManyDigits, 1, (some .boolean)), (yX9_isNumber, cX9_isNumber, 2, (some .boolean)), (yX9_isSign, cX9_isSign, 2, (some .boolean)), (yX9_sign, cX9_sign, 1, (some .int)), (yX9_isWord, cX9_isWord, 3, (some .boolean)), (yX10_init, cX10_init, 1, none), (yX10_measure, cX10_measure, 9, none), (yX10_firstStep, cX10_firstStep, 7, (some .int)), (yX10_parts, cX10_parts, 8, (some .int)), (yX10_seenFrom, cX10_seenFrom, 8, (some .int)), (yX11_init, cX11_init, 1, none), (yX11_feed, cX11_feed, 6, (some .int)), (yX11_town, cX11_town, 4, (some .int)), (yX11_fault, cX11_fault, 1, (some .int)), (yX11_count, cX11_count, 2, (some .int)), (yX11_figure, cX11_figure, 3, (some .int)), (yX11_cell, cX11_cell, 3, (some .int)), (yX11_hours, cX11_hours, 2, (some .int)), (yX11_stop, cX11_stop, 3, (some .int)), (yX11_lift, cX11_lift, 4, (some .int)), (yX11_brush, cX11_brush, 3, (some .int)), (yX11_wall, cX11_wall, 3, (some .boolean)), (yX11_undo, cX11_undo, 1, (some .int)), (yX11_then, cX11_then, 4, (some .int)), (yX11_comes, cX11_comes, 4, (some .int)), (yX11_meet, cX11_meet, 4, (some .int)), (yX11_crowd, cX11_crowd, 7, (some .int)), (yX11_round, cX11_round, 2, (some .int)), (yX11_spread, cX11_spread, 6, (some .int)), (yX11_way, cX11_way, 4, (some .int)), (yX11_toStop, cX11_toStop, 5, (some .int)), (yX11_toThin, cX11_toThin, 4, (some .int)), (yX11_seats, cX11_seats, 2, (some .int)), (yX11_seat, cX11_seat, 2, (some .int)), (yX11_note, cX11_note, 4, (some .int)), (yX11_forget, cX11_forget, 1, none), (yX11_ahead, cX11_ahead, 2, (some .int)), (yX11_look, cX11_look, 6, (some .int)), (yX11_clouds, cX11_clouds, 10, (some .int)), (yX11_game, cX11_game, 7, (some .int)), (yX11_years, cX11_years, 6, (some .int)), (yX11_later, cX11_later, 3, (some .int)), (yX11_together, cX11_together, 6, (some .int)), (yX11_quiet, cX11_quiet, 5, (some .int)), (yX11_gone, cX11_gone, 6, (some .int)), (yX11_image, cX11_image, 1, none), (yX11_restore, cX11_restore, 1, (some .boolean)), (yX11_checkFigure, cX11_checkFigure, 2, none), (yX11_checkCell, cX11_checkCell, 2, none), (yX11_checkWhat, cX11_checkWhat, 2, none), (yX11_checkHours, cX11_checkHours, 3, none), (yX11_refuseAct, cX11_refuseAct, 1, (some .int)), (yX11_pay, cX11_pay, 2, none), (yX11_foresee, cX11_foresee, 2, none), (yX11_passFuture, cX11_passFuture, 1, none), (yX11_addMeetings, cX11_addMeetings, 2, none), (yX11_noneMeets, cX11_noneMeets, 3, (some .boolean)), (yX11_play, cX11_play, 7, none), (yX11_rests, cX11_rests, 3, (some .boolean)), (yX11_draw, cX11_draw, 2, (some .int)), (yX11_drawFate, cX11_drawFate, 4, none), (yX11_busiest, cX11_busiest, 5, (some .int)), (yX11_sorest, cX11_sorest, 5, (some .int)), (yX11_alone, cX11_alone, 4, (some .int)), (yX11_stuck, cX11_stuck, 4, (some .int)), (yX12_init, cX12_init, 1, none), (yX12_thrown, cX12_thrown, 1, (some .int)), (yX12_right, cX12_right, 3, (some .boolean)), (yX12_within, cX12_within, 3, (some .boolean)), (yX12_bounded, cX12_bounded, 3, (some .int)), (yX12_lesser, cX12_lesser, 2, (some .int)), (yX12_copies, cX12_copies, 4, none), (yX12_bits, cX12_bits, 3, (some .int)), (yX12_feed, cX12_feed, 6, (some .int)), (yX12_lays, cX12_lays, 3, none), (yX12_byteAt, cX12_byteAt, 2, (some .int)), (yX12_isLetter, cX12_isLetter, 1, (some .boolean)), (yX12_isDigit, cX12_isDigit, 1, (some .boolean)), (yX12_goes, cX12_goes, 2, none), (yX12_spelled, cX12_spelled, 8, (some .long)), (yX12_letters, cX12_letters, 1, (some .long)), (yX12_knownWord, cX12_knownWord, 2, (some .int)), (yX12_wrong, cX12_wrong, 2, none), (yX12_isGood, cX12_isGood, 1, (some .boolean)), (yX12_isSign, cX12_isSign, 2, (some .boolean)), (yX12_need, cX12_need, 2, none), (yX12_number, cX12_number, 4, (some .int)), (yX12_cellHere, cX12_cellHere, 1, (some .int)), (yX12_puts, cX12_puts, 2, none), (yX12_isOpen, cX12_isOpen, 1, (some .boolean)), (yX12_strength, cX12_strength, 1, (some .int)), (yX12_drops, cX12_drops, 2, none), (yX12_waitsFor, cX12_waitsFor, 2, none), (yX12_part, cX12_part, 2, none), (yX12_deeper, cX12_deeper, 1, none), (yX12_operand, cX12_operand, 5, none), (yX12_isOpened, cX12_isOpened, 2, (some .boolean)), (yX12_closes, cX12_closes, 1, none), (yX12_expression, cX12_expression, 5, none), (yX12_begins, cX12_begins, 3, (some .boolean)), (yX12_readsWall, cX12_readsWall, 3, none), (yX12_readsFigure, cX12_readsFigure, 5, none), (yX12_readsSeat, cX12_readsSeat, 1, none), (yX12_readsLight, cX12_readsLight, 3, none), (yX12_line, cX12_line, 2, none), (yX12_town, cX12_town, 3, (some .int)), (yX12_fault, cX12_fault, 1, (some .int)), (yX12_keeps, cX12_keeps, 2, none), (yX12_refuses, cX12_refuses, 2, (some .int)), (yX12_undo, cX12_undo, 2, (some .int)), (yX12_tries, cX12_tries, 2, none), (yX12_works, cX12_works, 3, (some .int)), (yX12_reckons, cX12_reckons, 5, (some .int)), (yX12_lightAt, cX12_lightAt, 2, (some .int)), (yX12_isDull, cX12_isDull, 2, (some .boolean)), (yX12_atCell, cX12_atCell, 5, (some .int)), (yX12_withIt, cX12_withIt, 3, (some .int)), (yX12_stepOf, cX12_stepOf, 3, (some .int)), (yX12_tells, cX12_tells, 3, none), (yX12_hurtsBy, cX12_hurtsBy, 3, (some .int)), (yX12_isGoing, cX12_isGoing, 3, (some .boolean)), (yX12_beside, cX12_beside, 3, (some .int)), (yX12_figureGoes, cX12_figureGoes, 4, none), (yX12_hourGoes, cX12_hourGoes, 3, none), (yX12_hoursGo, cX12_hoursGo, 3, none), (yX12_sumOf, cX12_sumOf, 6, (some .int)), (yX12_heldOnes, cX12_heldOnes, 3, (some .int)), (yX12_laysFar, cX12_laysFar, 7, none), (yX12_parts, cX12_parts, 5, (some .int)), (yX12_count, cX12_count, 2, (some .int)), (yX12_isFigure, cX12_isFigure, 2, (some .boolean)), (yX12_isCell, cX12_isCell, 2, (some .boolean)), (yX12_isWhat, cX12_isWhat, 3, (some .boolean)), (yX12_isSoon, cX12_isSoon, 4, (some .boolean)), (yX12_figure, cX12_figure, 3, (some .int)), (yX12_seenFrom, cX12_seenFrom, 5, (some .int)), (yX12_cell, cX12_cell, 5, (some .int)), (yX12_hours, cX12_hours, 3, (some .int)), (yX12_stop, cX12_stop, 3, (some .int)), (yX12_lift, cX12_lift, 4, (some .int)), (yX12_brush, cX12_brush, 3, (some .int)), (yX12_wall, cX12_wall, 5, (some .boolean)), (yX12_goesTo, cX12_goesTo, 2, none), (yX12_then, cX12_then, 4, (some .int)), (yX12_comes, cX12_comes, 4, (some .int)), (yX12_meet, cX12_meet, 4, (some .int)), (yX12_mostOften, cX12_mostOften, 3, (some .int)), (yX12_clears, cX12_clears, 2, none), (yX12_marks, cX12_marks, 2, none), (yX12_crowd, cX12_crowd, 4, (some .int)), (yX12_areAsNow, cX12_areAsNow, 3, (some .boolean)), (yX12_round, cX12_round, 2, (some .int)), (yX12_spread, cX12_spread, 5, (some .int)), (yX12_later, cX12_later, 7, (some .int)), (yX12_together, cX12_together, 6, (some .int)), (yX12_quiet, cX12_quiet, 5, (some .int)), (yX12_gone, cX12_gone, 6, (some .int)), (yX12_way, cX12_way, 7, (some .int)), (yX12_toStop, cX12_toStop, 5, (some .int)), (yX12_toThin, cX12_toThin, 6, (some .int)), (yX12_sits, cX12_sits, 4, (some .int)), (yX12_canSit, cX12_canSit, 4, (some .boolean)), (yX12_laysSeats, cX12_laysSeats, 5, none), (yX12_seats, cX12_seats, 2, (some .int)), (yX12_seat, cX12_seat, 6, (some .int)), (yX12_note, cX12_note, 4, (some .int)), (yX12_forget, cX12_forget, 1, none), (yX12_isNoted, cX12_isNoted, 3, (some .boolean)), (yX12_isGuess, cX12_isGuess, 3, (some .boolean)), (yX12_ahead, cX12_ahead, 5, (some .int)), (yX12_look, cX12_look, 10, (some .int)), (yX12_clouds, cX12_clouds, 9, (some .int)), (yX12_gains, cX12_gains, 7, (some .int)), (yX12_game, cX12_game, 9, (some .int)), (yX12_draw, cX12_draw, 2, (some .int)), (yX12_happens, cX12_happens, 4, none), (yX12_years, cX12_years, 8, (some .int)), (yX12_image, cX12_image, 2, none), (yX12_restore, cX12_restore, 2, (some .boolean)), (yJ6_bitCount_0f7a4, cJ6_bitCount_0f7a4, 1, (some .int)), (yJ13_bitCount_95d88, cJ13_bitCount_95d88, 2, (some .int)), (yJ9_max_7cf53, cJ9_max_7cf53, 2, (some .int)), (yJ9_min_7cf53, cJ9_min_7cf53, 2, (some .int)), (yJ7_fill_d0a16, cJ7_fill_d0a16, 5, none), (yJ7_fill_53178, cJ7_fill_53178, 4, none), (yJ0_length_8abf5, cJ0_length_8abf5, 1, (some .int)), (yJ0_charAt_5068e, cJ0_charAt_5068e, 2, (some .char)), (yJ0_indexOf_0f7a4, cJ0_indexOf_0f7a4, 2, (some .int))]
def yar : List Nat := [0, 0, 0, 1, 1, 3, 1, 2, 0, 4, 4, 2, 0, 3, 3, 3, 3, 3, 3, 0, 0, 0, 1, 1, 2, 1, 1, 1, 2, 0, 3, 2, 1, 1, 2, 2, 2, 2, 2, 2, 4, 2, 0, 0, 0, 1, 1, 3, 0, 3, 1, 1, 3, 2, 3, 2, 2, 1, 1, 1, 2, 0, 3, 3, 3, 3, 1, 0, 1, 1, 2, 2, 1, 1, 1, 0, 1, 1, 0, 0, 0, 0, 1, 1, 0, 0, 1, 1, 0, 1, 1, 0, 1, 0, 3, 3, 2, 3, 0, 5, 1, 0, 1, 2, 2, 1, 2, 2, 1, 2, 0, 3, 2, 2, 2, 0, 2, 3, 3, 1, 1, 1, 3, 0, 1, 1, 4, 3, 3, 2, 3, 2, 2, 0, 0, 1, 1, 2, 3, 0, 1, 1, 0, 0, 1, 3, 1, 1, 0, 1, 1, 1, 1, 0, 0, 2, 3, 3, 2, 2, 1, 5, 1, 1, 1, 1, 0, 6, 1, 0, 1, 0, 1, 1, 2, 0, 1, 1, 1, 1, 1, 0, 0, 1, 0, 0, 2, 2, 0, 0, 0, 0, 0, 1, 0, 0, 1, 0, 0, 3, 1, 1, 1, 2, 2, 2, 2, 2, 2, 2, 2, 1, 1, 3, 0, 1, 0, 1, 1, 1, 2, 3, 2, 1, 2, 1, 2, 2, 1, 2, 1, 3, 2, 2, 0, 0, 0, 2, 0, 0, 2, 2, 3, 2, 2, 3, 3, 1, 3, 3, 0, 1, 1, 3, 0, 0, 1, 1, 1, 4, 4, 3, 1, 0, 3, 0, 0, 1, 1, 2, 2, 2, 2, 0, 1, 1]
def Y : pY := fun j => (ytab[j]?).getD (⟨"", "", ""⟩, ⟨#[]⟩, 0, none)
def ar (j : Nat) : Nat := yar.getD j 0
theorem yo_mk {y : MethodName} {c : ByteArray} {n : Nat} {r : Option FieldType} {j k i q : Nat} (hY : Y j = (y, c, n, r)) (hc : (lw_ch k)[i]? = some (Cond.code y c n r)) (h : (decide (n ≤ 21) && (decide (y.cls ≠ "java/lang/invoke/MethodHandle") && (decide (y.cls ≠ "java/lang/invoke/VarHandle") && (decide ((parseMethodDescriptor y.desc).map (fun d => d.parameters.length) = some (ar j)) && (inT q (.initialized y.cls) && plainName y.cls))))) = true) : pm_okY Y TW j (ar j) ∧ plainName (Y j).1.cls = true := by
  simp only [Bool.and_eq_true, decide_eq_true_eq] at h
  obtain ⟨a2, a3, a4, a5, a6, a7⟩ := h
  unfold pm_okY
  rw [hY]
  exact ⟨⟨List.mem_filter.mpr ⟨lw_ch_in _ _ (List.mem_of_getElem? hc), rfl⟩, a2, a3, a4, a5, inT_ok a6⟩, a7⟩
theorem yo_0 : pm_okY Y TW 0 (ar 0) ∧ plainName (Y 0).1.cls = true := yo_mk (y := yX0_init) (c := cX0_init) (n := 1) (r := none) (k := 2) (i := 23) (q := 1008) rfl rfl (by decide +kernel)
theorem yo_1 : pm_okY Y TW 1 (ar 1) ∧ plainName (Y 1).1.cls = true := yo_mk (y := yX0_clearActs) (c := cX0_clearActs) (n := 1) (r := none) (k := 4) (i := 234) (q := 1008) rfl rfl (by decide +kernel)
theorem yo_2 : pm_okY Y TW 2 (ar 2) ∧ plainName (Y 2).1.cls = true := yo_mk (y := yX0_clearNotes) (c := cX0_clearNotes) (n := 1) (r := none) (k := 3) (i := 108) (q := 1008) rfl rfl (by decide +kernel)
theorem yo_3 : pm_okY Y TW 3 (ar 3) ∧ plainName (Y 3).1.cls = true := yo_mk (y := yX0_keep) (c := cX0_keep) (n := 2) (r := none) (k := 2) (i := 226) (q := 1008) rfl rfl (by decide +kernel)
theorem yo_4 : pm_okY Y TW 4 (ar 4) ∧ plainName (Y 4).1.cls = true := yo_mk (y := yX0_takeBack) (c := cX0_takeBack) (n := 2) (r := none) (k := 3) (i := 69) (q := 1008) rfl rfl (by decide +kernel)
theorem yo_5 : pm_okY Y TW 5 (ar 5) ∧ plainName (Y 5).1.cls = true := yo_mk (y := yX0_add) (c := cX0_add) (n := 4) (r := none) (k := 6) (i := 10) (q := 1008) rfl rfl (by decide +kernel)
theorem yo_6 : pm_okY Y TW 6 (ar 6) ∧ plainName (Y 6).1.cls = true := yo_mk (y := yX0_copyFrom) (c := cX0_copyFrom) (n := 2) (r := none) (k := 3) (i := 116) (q := 1008) rfl rfl (by decide +kernel)
theorem yo_7 : pm_okY Y TW 7 (ar 7) ∧ plainName (Y 7).1.cls = true := yo_mk (y := yX0_agrees) (c := cX0_agrees) (n := 4) (r := (some .boolean)) (k := 6) (i := 25) (q := 1008) rfl rfl (by decide +kernel)
theorem yo_8 : pm_okY Y TW 8 (ar 8) ∧ plainName (Y 8).1.cls = true := yo_mk (y := yX1_init) (c := cX1_init) (n := 1) (r := none) (k := 2) (i := 103) (q := 1012) rfl rfl (by decide +kernel)
theorem yo_9 : pm_okY Y TW 9 (ar 9) ∧ plainName (Y 9).1.cls = true := yo_mk (y := yX1_search) (c := cX1_search) (n := 7) (r := none) (k := 6) (i := 31) (q := 1012) rfl rfl (by decide +kernel)
theorem yo_10 : pm_okY Y TW 10 (ar 10) ∧ plainName (Y 10).1.cls = true := yo_mk (y := yX1_holdsAll) (c := cX1_holdsAll) (n := 6) (r := (some .boolean)) (k := 6) (i := 21) (q := 1012) rfl rfl (by decide +kernel)
theorem yo_11 : pm_okY Y TW 11 (ar 11) ∧ plainName (Y 11).1.cls = true := yo_mk (y := yX1_addPlaces) (c := cX1_addPlaces) (n := 4) (r := none) (k := 6) (i := 40) (q := 1012) rfl rfl (by decide +kernel)
theorem yo_12 : pm_okY Y TW 12 (ar 12) ∧ plainName (Y 12).1.cls = true := yo_mk (y := yX2_init) (c := cX2_init) (n := 1) (r := none) (k := 2) (i := 53) (q := 1009) rfl rfl (by decide +kernel)
theorem yo_13 : pm_okY Y TW 13 (ar 13) ∧ plainName (Y 13).1.cls = true := yo_mk (y := yX2_passHours) (c := cX2_passHours) (n := 5) (r := none) (k := 2) (i := 237) (q := 1009) rfl rfl (by decide +kernel)
theorem yo_14 : pm_okY Y TW 14 (ar 14) ∧ plainName (Y 14).1.cls = true := yo_mk (y := yX2_passHour) (c := cX2_passHour) (n := 5) (r := none) (k := 3) (i := 9) (q := 1009) rfl rfl (by decide +kernel)
theorem yo_15 : pm_okY Y TW 15 (ar 15) ∧ plainName (Y 15).1.cls = true := yo_mk (y := yX2_hurt) (c := cX2_hurt) (n := 5) (r := none) (k := 3) (i := 13) (q := 1009) rfl rfl (by decide +kernel)
theorem yo_16 : pm_okY Y TW 16 (ar 16) ∧ plainName (Y 16).1.cls = true := yo_mk (y := yX2_wantsToGo) (c := cX2_wantsToGo) (n := 4) (r := (some .boolean)) (k := 3) (i := 45) (q := 1009) rfl rfl (by decide +kernel)
theorem yo_17 : pm_okY Y TW 17 (ar 17) ∧ plainName (Y 17).1.cls = true := yo_mk (y := yX2_go) (c := cX2_go) (n := 5) (r := none) (k := 3) (i := 49) (q := 1009) rfl rfl (by decide +kernel)
theorem yo_18 : pm_okY Y TW 18 (ar 18) ∧ plainName (Y 18).1.cls = true := yo_mk (y := yX2_setValues) (c := cX2_setValues) (n := 4) (r := none) (k := 3) (i := 21) (q := 1009) rfl rfl (by decide +kernel)
theorem yo_19 : pm_okY Y TW 19 (ar 19) ∧ plainName (Y 19).1.cls = true := yo_mk (y := yX3_init) (c := cX3_init) (n := 1) (r := none) (k := 1) (i := 115) (q := 1005) rfl rfl (by decide +kernel)
theorem yo_20 : pm_okY Y TW 20 (ar 20) ∧ plainName (Y 20).1.cls = true := yo_mk (y := yX3_clear) (c := cX3_clear) (n := 1) (r := none) (k := 2) (i := 127) (q := 1005) rfl rfl (by decide +kernel)
theorem yo_21 : pm_okY Y TW 21 (ar 21) ∧ plainName (Y 21).1.cls = true := yo_mk (y := yX3_cells) (c := cX3_cells) (n := 1) (r := (some .int)) (k := 3) (i := 57) (q := 1005) rfl rfl (by decide +kernel)
theorem yo_22 : pm_okY Y TW 22 (ar 22) ∧ plainName (Y 22).1.cls = true := yo_mk (y := yX3_lightOf) (c := cX3_lightOf) (n := 2) (r := (some .int)) (k := 3) (i := 5) (q := 1005) rfl rfl (by decide +kernel)
theorem yo_23 : pm_okY Y TW 23 (ar 23) ∧ plainName (Y 23).1.cls = true := yo_mk (y := yX3_isDull) (c := cX3_isDull) (n := 2) (r := (some .boolean)) (k := 3) (i := 1) (q := 1005) rfl rfl (by decide +kernel)
theorem yo_24 : pm_okY Y TW 24 (ar 24) ∧ plainName (Y 24).1.cls = true := yo_mk (y := yX3_stepOf) (c := cX3_stepOf) (n := 4) (r := (some .int)) (k := 3) (i := 30) (q := 1005) rfl rfl (by decide +kernel)
theorem yo_25 : pm_okY Y TW 25 (ar 25) ∧ plainName (Y 25).1.cls = true := yo_mk (y := yX3_seatsAt) (c := cX3_seatsAt) (n := 4) (r := (some .int)) (k := 4) (i := 138) (q := 1005) rfl rfl (by decide +kernel)
theorem yo_26 : pm_okY Y TW 26 (ar 26) ∧ plainName (Y 26).1.cls = true := yo_mk (y := yX3_isWall) (c := cX3_isWall) (n := 2) (r := (some .boolean)) (k := 4) (i := 130) (q := 1005) rfl rfl (by decide +kernel)
theorem yo_27 : pm_okY Y TW 27 (ar 27) ∧ plainName (Y 27).1.cls = true := yo_mk (y := yX3_isStart) (c := cX3_isStart) (n := 3) (r := (some .boolean)) (k := 4) (i := 134) (q := 1005) rfl rfl (by decide +kernel)
theorem yo_28 : pm_okY Y TW 28 (ar 28) ∧ plainName (Y 28).1.cls = true := yo_mk (y := yX3_beside) (c := cX3_beside) (n := 4) (r := (some .int)) (k := 3) (i := 53) (q := 1005) rfl rfl (by decide +kernel)
theorem yo_29 : pm_okY Y TW 29 (ar 29) ∧ plainName (Y 29).1.cls = true := yo_mk (y := yX4_init) (c := cX4_init) (n := 1) (r := none) (k := 1) (i := 76) (q := 1003) rfl rfl (by decide +kernel)
theorem yo_30 : pm_okY Y TW 30 (ar 30) ∧ plainName (Y 30).1.cls = true := yo_mk (y := yX4_read) (c := cX4_read) (n := 6) (r := (some .int)) (k := 3) (i := 200) (q := 1003) rfl rfl (by decide +kernel)
theorem yo_31 : pm_okY Y TW 31 (ar 31) ∧ plainName (Y 31).1.cls = true := yo_mk (y := yX4_readTable) (c := cX4_readTable) (n := 4) (r := (some .int)) (k := 4) (i := 94) (q := 1003) rfl rfl (by decide +kernel)
theorem yo_32 : pm_okY Y TW 32 (ar 32) ∧ plainName (Y 32).1.cls = true := yo_mk (y := yX4_sideFault) (c := cX4_sideFault) (n := 1) (r := (some .int)) (k := 4) (i := 98) (q := 1003) rfl rfl (by decide +kernel)
theorem yo_33 : pm_okY Y TW 33 (ar 33) ∧ plainName (Y 33).1.cls = true := yo_mk (y := yX4_readStop) (c := cX4_readStop) (n := 1) (r := (some .int)) (k := 4) (i := 109) (q := 1003) rfl rfl (by decide +kernel)
theorem yo_34 : pm_okY Y TW 34 (ar 34) ∧ plainName (Y 34).1.cls = true := yo_mk (y := yX4_readLine) (c := cX4_readLine) (n := 3) (r := (some .int)) (k := 4) (i := 117) (q := 1003) rfl rfl (by decide +kernel)
theorem yo_35 : pm_okY Y TW 35 (ar 35) ∧ plainName (Y 35).1.cls = true := yo_mk (y := yX4_cellFault) (c := cX4_cellFault) (n := 2) (r := (some .int)) (k := 4) (i := 124) (q := 1003) rfl rfl (by decide +kernel)
theorem yo_36 : pm_okY Y TW 36 (ar 36) ∧ plainName (Y 36).1.cls = true := yo_mk (y := yX4_readWall) (c := cX4_readWall) (n := 3) (r := (some .int)) (k := 4) (i := 121) (q := 1003) rfl rfl (by decide +kernel)
theorem yo_37 : pm_okY Y TW 37 (ar 37) ∧ plainName (Y 37).1.cls = true := yo_mk (y := yX4_readFigure) (c := cX4_readFigure) (n := 5) (r := (some .int)) (k := 4) (i := 143) (q := 1003) rfl rfl (by decide +kernel)
theorem yo_38 : pm_okY Y TW 38 (ar 38) ∧ plainName (Y 38).1.cls = true := yo_mk (y := yX4_readSeat) (c := cX4_readSeat) (n := 3) (r := (some .int)) (k := 4) (i := 151) (q := 1003) rfl rfl (by decide +kernel)
theorem yo_39 : pm_okY Y TW 39 (ar 39) ∧ plainName (Y 39).1.cls = true := yo_mk (y := yX4_readLight) (c := cX4_readLight) (n := 4) (r := (some .int)) (k := 4) (i := 156) (q := 1003) rfl rfl (by decide +kernel)
theorem yo_40 : pm_okY Y TW 40 (ar 40) ∧ plainName (Y 40).1.cls = true := yo_mk (y := yX4_readRow) (c := cX4_readRow) (n := 6) (r := (some .int)) (k := 4) (i := 147) (q := 1003) rfl rfl (by decide +kernel)
theorem yo_41 : pm_okY Y TW 41 (ar 41) ∧ plainName (Y 41).1.cls = true := yo_mk (y := yX4_readDull) (c := cX4_readDull) (n := 2) (r := (some .int)) (k := 4) (i := 160) (q := 1003) rfl rfl (by decide +kernel)
theorem yo_42 : pm_okY Y TW 42 (ar 42) ∧ plainName (Y 42).1.cls = true := yo_mk (y := yX5_init) (c := cX5_init) (n := 1) (r := none) (k := 1) (i := 121) (q := 1006) rfl rfl (by decide +kernel)
theorem yo_43 : pm_okY Y TW 43 (ar 43) ∧ plainName (Y 43).1.cls = true := yo_mk (y := yX5_clear) (c := cX5_clear) (n := 1) (r := none) (k := 2) (i := 131) (q := 1006) rfl rfl (by decide +kernel)
theorem yo_44 : pm_okY Y TW 44 (ar 44) ∧ plainName (Y 44).1.cls = true := yo_mk (y := yX5_isTold) (c := cX5_isTold) (n := 1) (r := (some .boolean)) (k := 3) (i := 17) (q := 1006) rfl rfl (by decide +kernel)
theorem yo_45 : pm_okY Y TW 45 (ar 45) ∧ plainName (Y 45).1.cls = true := yo_mk (y := yX5_add) (c := cX5_add) (n := 2) (r := none) (k := 4) (i := 193) (q := 1006) rfl rfl (by decide +kernel)
theorem yo_46 : pm_okY Y TW 46 (ar 46) ∧ plainName (Y 46).1.cls = true := yo_mk (y := yX5_value) (c := cX5_value) (n := 5) (r := (some .int)) (k := 3) (i := 34) (q := 1006) rfl rfl (by decide +kernel)
theorem yo_47 : pm_okY Y TW 47 (ar 47) ∧ plainName (Y 47).1.cls = true := yo_mk (y := yX5_join) (c := cX5_join) (n := 3) (r := (some .int)) (k := 3) (i := 37) (q := 1006) rfl rfl (by decide +kernel)
theorem yo_48 : pm_okY Y TW 48 (ar 48) ∧ plainName (Y 48).1.cls = true := yo_mk (y := yX6_init) (c := cX6_init) (n := 1) (r := none) (k := 1) (i := 82) (q := 1004) rfl rfl (by decide +kernel)
theorem yo_49 : pm_okY Y TW 49 (ar 49) ∧ plainName (Y 49).1.cls = true := yo_mk (y := yX6_read) (c := cX6_read) (n := 6) (r := (some .int)) (k := 4) (i := 165) (q := 1004) rfl rfl (by decide +kernel)
theorem yo_50 : pm_okY Y TW 50 (ar 50) ∧ plainName (Y 50).1.cls = true := yo_mk (y := yX6_isEnd) (c := cX6_isEnd) (n := 2) (r := (some .boolean)) (k := 4) (i := 175) (q := 1004) rfl rfl (by decide +kernel)
theorem yo_51 : pm_okY Y TW 51 (ar 51) ∧ plainName (Y 51).1.cls = true := yo_mk (y := yX6_beginPart) (c := cX6_beginPart) (n := 2) (r := none) (k := 4) (i := 170) (q := 1004) rfl rfl (by decide +kernel)
theorem yo_52 : pm_okY Y TW 52 (ar 52) ∧ plainName (Y 52).1.cls = true := yo_mk (y := yX6_readPart) (c := cX6_readPart) (n := 5) (r := (some .int)) (k := 4) (i := 180) (q := 1004) rfl rfl (by decide +kernel)
theorem yo_53 : pm_okY Y TW 53 (ar 53) ∧ plainName (Y 53).1.cls = true := yo_mk (y := yX6_readNumber) (c := cX6_readNumber) (n := 3) (r := (some .int)) (k := 4) (i := 188) (q := 1004) rfl rfl (by decide +kernel)
theorem yo_54 : pm_okY Y TW 54 (ar 54) ∧ plainName (Y 54).1.cls = true := yo_mk (y := yX6_readWord) (c := cX6_readWord) (n := 5) (r := (some .int)) (k := 4) (i := 197) (q := 1004) rfl rfl (by decide +kernel)
theorem yo_55 : pm_okY Y TW 55 (ar 55) ∧ plainName (Y 55).1.cls = true := yo_mk (y := yX6_valueOf) (c := cX6_valueOf) (n := 2) (r := (some .int)) (k := 4) (i := 202) (q := 1004) rfl rfl (by decide +kernel)
theorem yo_56 : pm_okY Y TW 56 (ar 56) ∧ plainName (Y 56).1.cls = true := yo_mk (y := yX6_readOperator) (c := cX6_readOperator) (n := 6) (r := (some .int)) (k := 4) (i := 212) (q := 1004) rfl rfl (by decide +kernel)
theorem yo_57 : pm_okY Y TW 57 (ar 57) ∧ plainName (Y 57).1.cls = true := yo_mk (y := yX6_operatorOf) (c := cX6_operatorOf) (n := 1) (r := (some .int)) (k := 4) (i := 223) (q := 1004) rfl rfl (by decide +kernel)
theorem yo_58 : pm_okY Y TW 58 (ar 58) ∧ plainName (Y 58).1.cls = true := yo_mk (y := yX6_rankOf) (c := cX6_rankOf) (n := 1) (r := (some .int)) (k := 4) (i := 219) (q := 1004) rfl rfl (by decide +kernel)
theorem yo_59 : pm_okY Y TW 59 (ar 59) ∧ plainName (Y 59).1.cls = true := yo_mk (y := yX6_push) (c := cX6_push) (n := 2) (r := none) (k := 4) (i := 184) (q := 1004) rfl rfl (by decide +kernel)
theorem yo_60 : pm_okY Y TW 60 (ar 60) ∧ plainName (Y 60).1.cls = true := yo_mk (y := yX6_release) (c := cX6_release) (n := 3) (r := none) (k := 4) (i := 216) (q := 1004) rfl rfl (by decide +kernel)
theorem yo_61 : pm_okY Y TW 61 (ar 61) ∧ plainName (Y 61).1.cls = true := yo_mk (y := yX7_init) (c := cX7_init) (n := 1) (r := none) (k := 2) (i := 78) (q := 1011) rfl rfl (by decide +kernel)
theorem yo_62 : pm_okY Y TW 62 (ar 62) ∧ plainName (Y 62).1.cls = true := yo_mk (y := yX7_place) (c := cX7_place) (n := 6) (r := none) (k := 5) (i := 213) (q := 1011) rfl rfl (by decide +kernel)
theorem yo_63 : pm_okY Y TW 63 (ar 63) ∧ plainName (Y 63).1.cls = true := yo_mk (y := yX7_measureAll) (c := cX7_measureAll) (n := 6) (r := none) (k := 5) (i := 217) (q := 1011) rfl rfl (by decide +kernel)
theorem yo_64 : pm_okY Y TW 64 (ar 64) ∧ plainName (Y 64).1.cls = true := yo_mk (y := yX7_bestFrom) (c := cX7_bestFrom) (n := 6) (r := (some .int)) (k := 5) (i := 223) (q := 1011) rfl rfl (by decide +kernel)
theorem yo_65 : pm_okY Y TW 65 (ar 65) ∧ plainName (Y 65).1.cls = true := yo_mk (y := yX7_worthAt) (c := cX7_worthAt) (n := 5) (r := (some .int)) (k := 5) (i := 227) (q := 1011) rfl rfl (by decide +kernel)
theorem yo_66 : pm_okY Y TW 66 (ar 66) ∧ plainName (Y 66).1.cls = true := yo_mk (y := yX7_choose) (c := cX7_choose) (n := 5) (r := none) (k := 5) (i := 232) (q := 1011) rfl rfl (by decide +kernel)
theorem yo_67 : pm_okY Y TW 67 (ar 67) ∧ plainName (Y 67).1.cls = true := yo_mk (y := yX8_init) (c := cX8_init) (n := 1) (r := none) (k := 1) (i := 214) (q := 1007) rfl rfl (by decide +kernel)
theorem yo_68 : pm_okY Y TW 68 (ar 68) ∧ plainName (Y 68).1.cls = true := yo_mk (y := yX8_begin) (c := cX8_begin) (n := 2) (r := none) (k := 2) (i := 135) (q := 1007) rfl rfl (by decide +kernel)
theorem yo_69 : pm_okY Y TW 69 (ar 69) ∧ plainName (Y 69).1.cls = true := yo_mk (y := yX8_copyFrom) (c := cX8_copyFrom) (n := 2) (r := none) (k := 3) (i := 86) (q := 1007) rfl rfl (by decide +kernel)
theorem yo_70 : pm_okY Y TW 70 (ar 70) ∧ plainName (Y 70).1.cls = true := yo_mk (y := yX8_saveTo) (c := cX8_saveTo) (n := 3) (r := none) (k := 2) (i := 230) (q := 1007) rfl rfl (by decide +kernel)
theorem yo_71 : pm_okY Y TW 71 (ar 71) ∧ plainName (Y 71).1.cls = true := yo_mk (y := yX8_loadFrom) (c := cX8_loadFrom) (n := 3) (r := none) (k := 3) (i := 73) (q := 1007) rfl rfl (by decide +kernel)
theorem yo_72 : pm_okY Y TW 72 (ar 72) ∧ plainName (Y 72).1.cls = true := yo_mk (y := yX8_isWall) (c := cX8_isWall) (n := 2) (r := (some .boolean)) (k := 3) (i := 61) (q := 1007) rfl rfl (by decide +kernel)
theorem yo_73 : pm_okY Y TW 73 (ar 73) ∧ plainName (Y 73).1.cls = true := yo_mk (y := yX8_figuresAt) (c := cX8_figuresAt) (n := 4) (r := (some .int)) (k := 5) (i := 78) (q := 1007) rfl rfl (by decide +kernel)
theorem yo_74 : pm_okY Y TW 74 (ar 74) ∧ plainName (Y 74).1.cls = true := yo_mk (y := yX8_othersWith) (c := cX8_othersWith) (n := 4) (r := (some .int)) (k := 3) (i := 26) (q := 1007) rfl rfl (by decide +kernel)
theorem yo_75 : pm_okY Y TW 75 (ar 75) ∧ plainName (Y 75).1.cls = true := yo_mk (y := yX8_aloneBits) (c := cX8_aloneBits) (n := 3) (r := (some .int)) (k := 6) (i := 114) (q := 1007) rfl rfl (by decide +kernel)
theorem yo_76 : pm_okY Y TW 76 (ar 76) ∧ plainName (Y 76).1.cls = true := yo_mk (y := yX8_placedAsBits) (c := cX8_placedAsBits) (n := 4) (r := (some .int)) (k := 3) (i := 100) (q := 1007) rfl rfl (by decide +kernel)
theorem yo_77 : pm_okY Y TW 77 (ar 77) ∧ plainName (Y 77).1.cls = true := yo_mk (y := yX8_isPlacedAs) (c := cX8_isPlacedAs) (n := 2) (r := (some .boolean)) (k := 3) (i := 96) (q := 1007) rfl rfl (by decide +kernel)
theorem yo_78 : pm_okY Y TW 78 (ar 78) ∧ plainName (Y 78).1.cls = true := yo_mk (y := yX8_places) (c := cX8_places) (n := 4) (r := (some .long)) (k := 6) (i := 91) (q := 1007) rfl rfl (by decide +kernel)
theorem yo_79 : pm_okY Y TW 79 (ar 79) ∧ plainName (Y 79).1.cls = true := yo_mk (y := yX8_soreOfAll) (c := cX8_soreOfAll) (n := 3) (r := (some .int)) (k := 5) (i := 25) (q := 1007) rfl rfl (by decide +kernel)
theorem yo_80 : pm_okY Y TW 80 (ar 80) ∧ plainName (Y 80).1.cls = true := yo_mk (y := yX8_heldBits) (c := cX8_heldBits) (n := 3) (r := (some .int)) (k := 5) (i := 29) (q := 1007) rfl rfl (by decide +kernel)
theorem yo_81 : pm_okY Y TW 81 (ar 81) ∧ plainName (Y 81).1.cls = true := yo_mk (y := yX9_init) (c := cX9_init) (n := 1) (r := none) (k := 1) (i := 41) (q := 1002) rfl rfl (by decide +kernel)
theorem yo_82 : pm_okY Y TW 82 (ar 82) ∧ plainName (Y 82).1.cls = true := yo_mk (y := yX9_add) (c := cX9_add) (n := 3) (r := none) (k := 2) (i := 210) (q := 1002) rfl rfl (by decide +kernel)
theorem yo_83 : pm_okY Y TW 83 (ar 83) ∧ plainName (Y 83).1.cls = true := yo_mk (y := yX9_begin) (c := cX9_begin) (n := 2) (r := none) (k := 3) (i := 205) (q := 1002) rfl rfl (by decide +kernel)
theorem yo_84 : pm_okY Y TW 84 (ar 84) ∧ plainName (Y 84).1.cls = true := yo_mk (y := yX9_advance) (c := cX9_advance) (n := 2) (r := none) (k := 3) (i := 209) (q := 1002) rfl rfl (by decide +kernel)
theorem yo_85 : pm_okY Y TW 85 (ar 85) ∧ plainName (Y 85).1.cls = true := yo_mk (y := yX9_readNumber) (c := cX9_readNumber) (n := 1) (r := none) (k := 3) (i := 219) (q := 1002) rfl rfl (by decide +kernel)
theorem yo_86 : pm_okY Y TW 86 (ar 86) ∧ plainName (Y 86).1.cls = true := yo_mk (y := yX9_isLetter) (c := cX9_isLetter) (n := 1) (r := (some .boolean)) (k := 3) (i := 212) (q := 1002) rfl rfl (by decide +kernel)
theorem yo_87 : pm_okY Y TW 87 (ar 87) ∧ plainName (Y 87).1.cls = true := yo_mk (y := yX9_isDigit) (c := cX9_isDigit) (n := 1) (r := (some .boolean)) (k := 3) (i := 215) (q := 1002) rfl rfl (by decide +kernel)
theorem yo_88 : pm_okY Y TW 88 (ar 88) ∧ plainName (Y 88).1.cls = true := yo_mk (y := yX9_hasManyDigits) (c := cX9_hasManyDigits) (n := 1) (r := (some .boolean)) (k := 4) (i := 106) (q := 1002) rfl rfl (by decide +kernel)
theorem yo_89 : pm_okY Y TW 89 (ar 89) ∧ plainName (Y 89).1.cls = true := yo_mk (y := yX9_isNumber) (c := cX9_isNumber) (n := 2) (r := (some .boolean)) (k := 4) (i := 102) (q := 1002) rfl rfl (by decide +kernel)
theorem yo_90 : pm_okY Y TW 90 (ar 90) ∧ plainName (Y 90).1.cls = true := yo_mk (y := yX9_isSign) (c := cX9_isSign) (n := 2) (r := (some .boolean)) (k := 4) (i := 113) (q := 1002) rfl rfl (by decide +kernel)
theorem yo_91 : pm_okY Y TW 91 (ar 91) ∧ plainName (Y 91).1.cls = true := yo_mk (y := yX9_sign) (c := cX9_sign) (n := 1) (r := (some .int)) (k := 4) (i := 229) (q := 1002) rfl rfl (by decide +kernel)
theorem yo_92 : pm_okY Y TW 92 (ar 92) ∧ plainName (Y 92).1.cls = true := yo_mk (y := yX9_isWord) (c := cX9_isWord) (n := 3) (r := (some .boolean)) (k := 4) (i := 69) (q := 1002) rfl rfl (by decide +kernel)
theorem yo_93 : pm_okY Y TW 93 (ar 93) ∧ plainName (Y 93).1.cls = true := yo_mk (y := yX10_init) (c := cX10_init) (n := 1) (r := none) (k := 2) (i := 63) (q := 1010) rfl rfl (by decide +kernel)
theorem yo_94 : pm_okY Y TW 94 (ar 94) ∧ plainName (Y 94).1.cls = true := yo_mk (y := yX10_measure) (c := cX10_measure) (n := 9) (r := none) (k := 5) (i := 18) (q := 1010) rfl rfl (by decide +kernel)
theorem yo_95 : pm_okY Y TW 95 (ar 95) ∧ plainName (Y 95).1.cls = true := yo_mk (y := yX10_firstStep) (c := cX10_firstStep) (n := 7) (r := (some .int)) (k := 5) (i := 179) (q := 1010) rfl rfl (by decide +kernel)
theorem yo_96 : pm_okY Y TW 96 (ar 96) ∧ plainName (Y 96).1.cls = true := yo_mk (y := yX10_parts) (c := cX10_parts) (n := 8) (r := (some .int)) (k := 5) (i := 13) (q := 1010) rfl rfl (by decide +kernel)
theorem yo_97 : pm_okY Y TW 97 (ar 97) ∧ plainName (Y 97).1.cls = true := yo_mk (y := yX10_seenFrom) (c := cX10_seenFrom) (n := 8) (r := (some .int)) (k := 5) (i := 83) (q := 1010) rfl rfl (by decide +kernel)
theorem yo_98 : pm_okY Y TW 98 (ar 98) ∧ plainName (Y 98).1.cls = true := yo_mk (y := yX11_init) (c := cX11_init) (n := 1) (r := none) (k := 1) (i := 33) (q := 1001) rfl rfl (by decide +kernel)
theorem yo_99 : pm_okY Y TW 99 (ar 99) ∧ plainName (Y 99).1.cls = true := yo_mk (y := yX11_feed) (c := cX11_feed) (n := 6) (r := (some .int)) (k := 2) (i := 206) (q := 1001) rfl rfl (by decide +kernel)
theorem yo_100 : pm_okY Y TW 100 (ar 100) ∧ plainName (Y 100).1.cls = true := yo_mk (y := yX11_town) (c := cX11_town) (n := 4) (r := (some .int)) (k := 3) (i := 129) (q := 1001) rfl rfl (by decide +kernel)
theorem yo_101 : pm_okY Y TW 101 (ar 101) ∧ plainName (Y 101).1.cls = true := yo_mk (y := yX11_fault) (c := cX11_fault) (n := 1) (r := (some .int)) (k := 2) (i := 214) (q := 1001) rfl rfl (by decide +kernel)
theorem yo_102 : pm_okY Y TW 102 (ar 102) ∧ plainName (Y 102).1.cls = true := yo_mk (y := yX11_count) (c := cX11_count) (n := 2) (r := (some .int)) (k := 5) (i := 2) (q := 1001) rfl rfl (by decide +kernel)
theorem yo_103 : pm_okY Y TW 103 (ar 103) ∧ plainName (Y 103).1.cls = true := yo_mk (y := yX11_figure) (c := cX11_figure) (n := 3) (r := (some .int)) (k := 5) (i := 52) (q := 1001) rfl rfl (by decide +kernel)
theorem yo_104 : pm_okY Y TW 104 (ar 104) ∧ plainName (Y 104).1.cls = true := yo_mk (y := yX11_cell) (c := cX11_cell) (n := 3) (r := (some .int)) (k := 5) (i := 67) (q := 1001) rfl rfl (by decide +kernel)
theorem yo_105 : pm_okY Y TW 105 (ar 105) ∧ plainName (Y 105).1.cls = true := yo_mk (y := yX11_hours) (c := cX11_hours) (n := 2) (r := (some .int)) (k := 2) (i := 218) (q := 1001) rfl rfl (by decide +kernel)
theorem yo_106 : pm_okY Y TW 106 (ar 106) ∧ plainName (Y 106).1.cls = true := yo_mk (y := yX11_stop) (c := cX11_stop) (n := 3) (r := (some .int)) (k := 5) (i := 92) (q := 1001) rfl rfl (by decide +kernel)
theorem yo_107 : pm_okY Y TW 107 (ar 107) ∧ plainName (Y 107).1.cls = true := yo_mk (y := yX11_lift) (c := cX11_lift) (n := 4) (r := (some .int)) (k := 5) (i := 104) (q := 1001) rfl rfl (by decide +kernel)
theorem yo_108 : pm_okY Y TW 108 (ar 108) ∧ plainName (Y 108).1.cls = true := yo_mk (y := yX11_brush) (c := cX11_brush) (n := 3) (r := (some .int)) (k := 5) (i := 111) (q := 1001) rfl rfl (by decide +kernel)
theorem yo_109 : pm_okY Y TW 109 (ar 109) ∧ plainName (Y 109).1.cls = true := yo_mk (y := yX11_wall) (c := cX11_wall) (n := 3) (r := (some .boolean)) (k := 5) (i := 118) (q := 1001) rfl rfl (by decide +kernel)
theorem yo_110 : pm_okY Y TW 110 (ar 110) ∧ plainName (Y 110).1.cls = true := yo_mk (y := yX11_undo) (c := cX11_undo) (n := 1) (r := (some .int)) (k := 3) (i := 65) (q := 1001) rfl rfl (by decide +kernel)
theorem yo_111 : pm_okY Y TW 111 (ar 111) ∧ plainName (Y 111).1.cls = true := yo_mk (y := yX11_then) (c := cX11_then) (n := 4) (r := (some .int)) (k := 5) (i := 125) (q := 1001) rfl rfl (by decide +kernel)
theorem yo_112 : pm_okY Y TW 112 (ar 112) ∧ plainName (Y 112).1.cls = true := yo_mk (y := yX11_comes) (c := cX11_comes) (n := 4) (r := (some .int)) (k := 5) (i := 140) (q := 1001) rfl rfl (by decide +kernel)
theorem yo_113 : pm_okY Y TW 113 (ar 113) ∧ plainName (Y 113).1.cls = true := yo_mk (y := yX11_meet) (c := cX11_meet) (n := 4) (r := (some .int)) (k := 5) (i := 147) (q := 1001) rfl rfl (by decide +kernel)
theorem yo_114 : pm_okY Y TW 114 (ar 114) ∧ plainName (Y 114).1.cls = true := yo_mk (y := yX11_crowd) (c := cX11_crowd) (n := 7) (r := (some .int)) (k := 5) (i := 154) (q := 1001) rfl rfl (by decide +kernel)
theorem yo_115 : pm_okY Y TW 115 (ar 115) ∧ plainName (Y 115).1.cls = true := yo_mk (y := yX11_round) (c := cX11_round) (n := 2) (r := (some .int)) (k := 3) (i := 78) (q := 1001) rfl rfl (by decide +kernel)
theorem yo_116 : pm_okY Y TW 116 (ar 116) ∧ plainName (Y 116).1.cls = true := yo_mk (y := yX11_spread) (c := cX11_spread) (n := 6) (r := (some .int)) (k := 5) (i := 167) (q := 1001) rfl rfl (by decide +kernel)
theorem yo_117 : pm_okY Y TW 117 (ar 117) ∧ plainName (Y 117).1.cls = true := yo_mk (y := yX11_way) (c := cX11_way) (n := 4) (r := (some .int)) (k := 5) (i := 174) (q := 1001) rfl rfl (by decide +kernel)
theorem yo_118 : pm_okY Y TW 118 (ar 118) ∧ plainName (Y 118).1.cls = true := yo_mk (y := yX11_toStop) (c := cX11_toStop) (n := 5) (r := (some .int)) (k := 5) (i := 186) (q := 1001) rfl rfl (by decide +kernel)
theorem yo_119 : pm_okY Y TW 119 (ar 119) ∧ plainName (Y 119).1.cls = true := yo_mk (y := yX11_toThin) (c := cX11_toThin) (n := 4) (r := (some .int)) (k := 5) (i := 193) (q := 1001) rfl rfl (by decide +kernel)
theorem yo_120 : pm_okY Y TW 120 (ar 120) ∧ plainName (Y 120).1.cls = true := yo_mk (y := yX11_seats) (c := cX11_seats) (n := 2) (r := (some .int)) (k := 5) (i := 209) (q := 1001) rfl rfl (by decide +kernel)
theorem yo_121 : pm_okY Y TW 121 (ar 121) ∧ plainName (Y 121).1.cls = true := yo_mk (y := yX11_seat) (c := cX11_seat) (n := 2) (r := (some .int)) (k := 5) (i := 239) (q := 1001) rfl rfl (by decide +kernel)
theorem yo_122 : pm_okY Y TW 122 (ar 122) ∧ plainName (Y 122).1.cls = true := yo_mk (y := yX11_note) (c := cX11_note) (n := 4) (r := (some .int)) (k := 6) (i := 6) (q := 1001) rfl rfl (by decide +kernel)
theorem yo_123 : pm_okY Y TW 123 (ar 123) ∧ plainName (Y 123).1.cls = true := yo_mk (y := yX11_forget) (c := cX11_forget) (n := 1) (r := none) (k := 3) (i := 104) (q := 1001) rfl rfl (by decide +kernel)
theorem yo_124 : pm_okY Y TW 124 (ar 124) ∧ plainName (Y 124).1.cls = true := yo_mk (y := yX11_ahead) (c := cX11_ahead) (n := 2) (r := (some .int)) (k := 6) (i := 17) (q := 1001) rfl rfl (by decide +kernel)
theorem yo_125 : pm_okY Y TW 125 (ar 125) ∧ plainName (Y 125).1.cls = true := yo_mk (y := yX11_look) (c := cX11_look) (n := 6) (r := (some .int)) (k := 6) (i := 48) (q := 1001) rfl rfl (by decide +kernel)
theorem yo_126 : pm_okY Y TW 126 (ar 126) ∧ plainName (Y 126).1.cls = true := yo_mk (y := yX11_clouds) (c := cX11_clouds) (n := 10) (r := (some .int)) (k := 6) (i := 55) (q := 1001) rfl rfl (by decide +kernel)
theorem yo_127 : pm_okY Y TW 127 (ar 127) ∧ plainName (Y 127).1.cls = true := yo_mk (y := yX11_game) (c := cX11_game) (n := 7) (r := (some .int)) (k := 6) (i := 62) (q := 1001) rfl rfl (by decide +kernel)
theorem yo_128 : pm_okY Y TW 128 (ar 128) ∧ plainName (Y 128).1.cls = true := yo_mk (y := yX11_years) (c := cX11_years) (n := 6) (r := (some .int)) (k := 6) (i := 78) (q := 1001) rfl rfl (by decide +kernel)
theorem yo_129 : pm_okY Y TW 129 (ar 129) ∧ plainName (Y 129).1.cls = true := yo_mk (y := yX11_later) (c := cX11_later) (n := 3) (r := (some .int)) (k := 6) (i := 98) (q := 1001) rfl rfl (by decide +kernel)
theorem yo_130 : pm_okY Y TW 130 (ar 130) ∧ plainName (Y 130).1.cls = true := yo_mk (y := yX11_together) (c := cX11_together) (n := 6) (r := (some .int)) (k := 6) (i := 127) (q := 1001) rfl rfl (by decide +kernel)
theorem yo_131 : pm_okY Y TW 131 (ar 131) ∧ plainName (Y 131).1.cls = true := yo_mk (y := yX11_quiet) (c := cX11_quiet) (n := 5) (r := (some .int)) (k := 6) (i := 134) (q := 1001) rfl rfl (by decide +kernel)
theorem yo_132 : pm_okY Y TW 132 (ar 132) ∧ plainName (Y 132).1.cls = true := yo_mk (y := yX11_gone) (c := cX11_gone) (n := 6) (r := (some .int)) (k := 6) (i := 141) (q := 1001) rfl rfl (by decide +kernel)
theorem yo_133 : pm_okY Y TW 133 (ar 133) ∧ plainName (Y 133).1.cls = true := yo_mk (y := yX11_image) (c := cX11_image) (n := 1) (r := none) (k := 3) (i := 112) (q := 1001) rfl rfl (by decide +kernel)
theorem yo_134 : pm_okY Y TW 134 (ar 134) ∧ plainName (Y 134).1.cls = true := yo_mk (y := yX11_restore) (c := cX11_restore) (n := 1) (r := (some .boolean)) (k := 3) (i := 121) (q := 1001) rfl rfl (by decide +kernel)
theorem yo_135 : pm_okY Y TW 135 (ar 135) ∧ plainName (Y 135).1.cls = true := yo_mk (y := yX11_checkFigure) (c := cX11_checkFigure) (n := 2) (r := none) (k := 5) (i := 56) (q := 1001) rfl rfl (by decide +kernel)
theorem yo_136 : pm_okY Y TW 136 (ar 136) ∧ plainName (Y 136).1.cls = true := yo_mk (y := yX11_checkCell) (c := cX11_checkCell) (n := 2) (r := none) (k := 5) (i := 71) (q := 1001) rfl rfl (by decide +kernel)
theorem yo_137 : pm_okY Y TW 137 (ar 137) ∧ plainName (Y 137).1.cls = true := yo_mk (y := yX11_checkWhat) (c := cX11_checkWhat) (n := 2) (r := none) (k := 5) (i := 128) (q := 1001) rfl rfl (by decide +kernel)
theorem yo_138 : pm_okY Y TW 138 (ar 138) ∧ plainName (Y 138).1.cls = true := yo_mk (y := yX11_checkHours) (c := cX11_checkHours) (n := 3) (r := none) (k := 5) (i := 132) (q := 1001) rfl rfl (by decide +kernel)
theorem yo_139 : pm_okY Y TW 139 (ar 139) ∧ plainName (Y 139).1.cls = true := yo_mk (y := yX11_refuseAct) (c := cX11_refuseAct) (n := 1) (r := (some .int)) (k := 2) (i := 222) (q := 1001) rfl rfl (by decide +kernel)
theorem yo_140 : pm_okY Y TW 140 (ar 140) ∧ plainName (Y 140).1.cls = true := yo_mk (y := yX11_pay) (c := cX11_pay) (n := 2) (r := none) (k := 5) (i := 96) (q := 1001) rfl rfl (by decide +kernel)
theorem yo_141 : pm_okY Y TW 141 (ar 141) ∧ plainName (Y 141).1.cls = true := yo_mk (y := yX11_foresee) (c := cX11_foresee) (n := 2) (r := none) (k := 3) (i := 82) (q := 1001) rfl rfl (by decide +kernel)
theorem yo_142 : pm_okY Y TW 142 (ar 142) ∧ plainName (Y 142).1.cls = true := yo_mk (y := yX11_passFuture) (c := cX11_passFuture) (n := 1) (r := none) (k := 3) (i := 90) (q := 1001) rfl rfl (by decide +kernel)
theorem yo_143 : pm_okY Y TW 143 (ar 143) ∧ plainName (Y 143).1.cls = true := yo_mk (y := yX11_addMeetings) (c := cX11_addMeetings) (n := 2) (r := none) (k := 5) (i := 198) (q := 1001) rfl rfl (by decide +kernel)
theorem yo_144 : pm_okY Y TW 144 (ar 144) ∧ plainName (Y 144).1.cls = true := yo_mk (y := yX11_noneMeets) (c := cX11_noneMeets) (n := 3) (r := (some .boolean)) (k := 5) (i := 202) (q := 1001) rfl rfl (by decide +kernel)
theorem yo_145 : pm_okY Y TW 145 (ar 145) ∧ plainName (Y 145).1.cls = true := yo_mk (y := yX11_play) (c := cX11_play) (n := 7) (r := none) (k := 6) (i := 67) (q := 1001) rfl rfl (by decide +kernel)
theorem yo_146 : pm_okY Y TW 146 (ar 146) ∧ plainName (Y 146).1.cls = true := yo_mk (y := yX11_rests) (c := cX11_rests) (n := 3) (r := (some .boolean)) (k := 6) (i := 71) (q := 1001) rfl rfl (by decide +kernel)
theorem yo_147 : pm_okY Y TW 147 (ar 147) ∧ plainName (Y 147).1.cls = true := yo_mk (y := yX11_draw) (c := cX11_draw) (n := 2) (r := (some .int)) (k := 6) (i := 86) (q := 1001) rfl rfl (by decide +kernel)
theorem yo_148 : pm_okY Y TW 148 (ar 148) ∧ plainName (Y 148).1.cls = true := yo_mk (y := yX11_drawFate) (c := cX11_drawFate) (n := 4) (r := none) (k := 6) (i := 82) (q := 1001) rfl rfl (by decide +kernel)
theorem yo_149 : pm_okY Y TW 149 (ar 149) ∧ plainName (Y 149).1.cls = true := yo_mk (y := yX11_busiest) (c := cX11_busiest) (n := 5) (r := (some .int)) (k := 6) (i := 102) (q := 1001) rfl rfl (by decide +kernel)
theorem yo_150 : pm_okY Y TW 150 (ar 150) ∧ plainName (Y 150).1.cls = true := yo_mk (y := yX11_sorest) (c := cX11_sorest) (n := 5) (r := (some .int)) (k := 6) (i := 106) (q := 1001) rfl rfl (by decide +kernel)
theorem yo_151 : pm_okY Y TW 151 (ar 151) ∧ plainName (Y 151).1.cls = true := yo_mk (y := yX11_alone) (c := cX11_alone) (n := 4) (r := (some .int)) (k := 6) (i := 110) (q := 1001) rfl rfl (by decide +kernel)
theorem yo_152 : pm_okY Y TW 152 (ar 152) ∧ plainName (Y 152).1.cls = true := yo_mk (y := yX11_stuck) (c := cX11_stuck) (n := 4) (r := (some .int)) (k := 6) (i := 119) (q := 1001) rfl rfl (by decide +kernel)
theorem yo_153 : pm_okY Y TW 153 (ar 153) ∧ plainName (Y 153).1.cls = true := yo_mk (y := yX12_init) (c := cX12_init) (n := 1) (r := none) (k := 6) (i := 146) (q := 1015) rfl rfl (by decide +kernel)
theorem yo_154 : pm_okY Y TW 154 (ar 154) ∧ plainName (Y 154).1.cls = true := yo_mk (y := yX12_thrown) (c := cX12_thrown) (n := 1) (r := (some .int)) (k := 7) (i := 126) (q := 1015) rfl rfl (by decide +kernel)
theorem yo_155 : pm_okY Y TW 155 (ar 155) ∧ plainName (Y 155).1.cls = true := yo_mk (y := yX12_right) (c := cX12_right) (n := 3) (r := (some .boolean)) (k := 7) (i := 142) (q := 1015) rfl rfl (by decide +kernel)
theorem yo_156 : pm_okY Y TW 156 (ar 156) ∧ plainName (Y 156).1.cls = true := yo_mk (y := yX12_within) (c := cX12_within) (n := 3) (r := (some .boolean)) (k := 8) (i := 36) (q := 1015) rfl rfl (by decide +kernel)
theorem yo_157 : pm_okY Y TW 157 (ar 157) ∧ plainName (Y 157).1.cls = true := yo_mk (y := yX12_bounded) (c := cX12_bounded) (n := 3) (r := (some .int)) (k := 8) (i := 141) (q := 1015) rfl rfl (by decide +kernel)
theorem yo_158 : pm_okY Y TW 158 (ar 158) ∧ plainName (Y 158).1.cls = true := yo_mk (y := yX12_lesser) (c := cX12_lesser) (n := 2) (r := (some .int)) (k := 8) (i := 144) (q := 1015) rfl rfl (by decide +kernel)
theorem yo_159 : pm_okY Y TW 159 (ar 159) ∧ plainName (Y 159).1.cls = true := yo_mk (y := yX12_copies) (c := cX12_copies) (n := 4) (r := none) (k := 8) (i := 21) (q := 1015) rfl rfl (by decide +kernel)
theorem yo_160 : pm_okY Y TW 160 (ar 160) ∧ plainName (Y 160).1.cls = true := yo_mk (y := yX12_bits) (c := cX12_bits) (n := 3) (r := (some .int)) (k := 8) (i := 91) (q := 1015) rfl rfl (by decide +kernel)
theorem yo_161 : pm_okY Y TW 161 (ar 161) ∧ plainName (Y 161).1.cls = true := yo_mk (y := yX12_feed) (c := cX12_feed) (n := 6) (r := (some .int)) (k := 7) (i := 130) (q := 1015) rfl rfl (by decide +kernel)
theorem yo_162 : pm_okY Y TW 162 (ar 162) ∧ plainName (Y 162).1.cls = true := yo_mk (y := yX12_lays) (c := cX12_lays) (n := 3) (r := none) (k := 7) (i := 134) (q := 1015) rfl rfl (by decide +kernel)
theorem yo_163 : pm_okY Y TW 163 (ar 163) ∧ plainName (Y 163).1.cls = true := yo_mk (y := yX12_byteAt) (c := cX12_byteAt) (n := 2) (r := (some .int)) (k := 7) (i := 150) (q := 1015) rfl rfl (by decide +kernel)
theorem yo_164 : pm_okY Y TW 164 (ar 164) ∧ plainName (Y 164).1.cls = true := yo_mk (y := yX12_isLetter) (c := cX12_isLetter) (n := 1) (r := (some .boolean)) (k := 7) (i := 153) (q := 1015) rfl rfl (by decide +kernel)
theorem yo_165 : pm_okY Y TW 165 (ar 165) ∧ plainName (Y 165).1.cls = true := yo_mk (y := yX12_isDigit) (c := cX12_isDigit) (n := 1) (r := (some .boolean)) (k := 7) (i := 156) (q := 1015) rfl rfl (by decide +kernel)
theorem yo_166 : pm_okY Y TW 166 (ar 166) ∧ plainName (Y 166).1.cls = true := yo_mk (y := yX12_goes) (c := cX12_goes) (n := 2) (r := none) (k := 7) (i := 146) (q := 1015) rfl rfl (by decide +kernel)
theorem yo_167 : pm_okY Y TW 167 (ar 167) ∧ plainName (Y 167).1.cls = true := yo_mk (y := yX12_spelled) (c := cX12_spelled) (n := 8) (r := (some .long)) (k := 7) (i := 166) (q := 1015) rfl rfl (by decide +kernel)
theorem yo_168 : pm_okY Y TW 168 (ar 168) ∧ plainName (Y 168).1.cls = true := yo_mk (y := yX12_letters) (c := cX12_letters) (n := 1) (r := (some .long)) (k := 7) (i := 163) (q := 1015) rfl rfl (by decide +kernel)
theorem yo_169 : pm_okY Y TW 169 (ar 169) ∧ plainName (Y 169).1.cls = true := yo_mk (y := yX12_knownWord) (c := cX12_knownWord) (n := 2) (r := (some .int)) (k := 7) (i := 160) (q := 1015) rfl rfl (by decide +kernel)
theorem yo_170 : pm_okY Y TW 170 (ar 170) ∧ plainName (Y 170).1.cls = true := yo_mk (y := yX12_wrong) (c := cX12_wrong) (n := 2) (r := none) (k := 7) (i := 179) (q := 1015) rfl rfl (by decide +kernel)
theorem yo_171 : pm_okY Y TW 171 (ar 171) ∧ plainName (Y 171).1.cls = true := yo_mk (y := yX12_isGood) (c := cX12_isGood) (n := 1) (r := (some .boolean)) (k := 7) (i := 175) (q := 1015) rfl rfl (by decide +kernel)
theorem yo_172 : pm_okY Y TW 172 (ar 172) ∧ plainName (Y 172).1.cls = true := yo_mk (y := yX12_isSign) (c := cX12_isSign) (n := 2) (r := (some .boolean)) (k := 7) (i := 183) (q := 1015) rfl rfl (by decide +kernel)
theorem yo_173 : pm_okY Y TW 173 (ar 173) ∧ plainName (Y 173).1.cls = true := yo_mk (y := yX12_need) (c := cX12_need) (n := 2) (r := none) (k := 7) (i := 187) (q := 1015) rfl rfl (by decide +kernel)
theorem yo_174 : pm_okY Y TW 174 (ar 174) ∧ plainName (Y 174).1.cls = true := yo_mk (y := yX12_number) (c := cX12_number) (n := 4) (r := (some .int)) (k := 7) (i := 171) (q := 1015) rfl rfl (by decide +kernel)
theorem yo_175 : pm_okY Y TW 175 (ar 175) ∧ plainName (Y 175).1.cls = true := yo_mk (y := yX12_cellHere) (c := cX12_cellHere) (n := 1) (r := (some .int)) (k := 7) (i := 203) (q := 1015) rfl rfl (by decide +kernel)
theorem yo_176 : pm_okY Y TW 176 (ar 176) ∧ plainName (Y 176).1.cls = true := yo_mk (y := yX12_puts) (c := cX12_puts) (n := 2) (r := none) (k := 7) (i := 239) (q := 1015) rfl rfl (by decide +kernel)
theorem yo_177 : pm_okY Y TW 177 (ar 177) ∧ plainName (Y 177).1.cls = true := yo_mk (y := yX12_isOpen) (c := cX12_isOpen) (n := 1) (r := (some .boolean)) (k := 8) (i := 6) (q := 1015) rfl rfl (by decide +kernel)
theorem yo_178 : pm_okY Y TW 178 (ar 178) ∧ plainName (Y 178).1.cls = true := yo_mk (y := yX12_strength) (c := cX12_strength) (n := 1) (r := (some .int)) (k := 8) (i := 9) (q := 1015) rfl rfl (by decide +kernel)
theorem yo_179 : pm_okY Y TW 179 (ar 179) ∧ plainName (Y 179).1.cls = true := yo_mk (y := yX12_drops) (c := cX12_drops) (n := 2) (r := none) (k := 8) (i := 3) (q := 1015) rfl rfl (by decide +kernel)
theorem yo_180 : pm_okY Y TW 180 (ar 180) ∧ plainName (Y 180).1.cls = true := yo_mk (y := yX12_waitsFor) (c := cX12_waitsFor) (n := 2) (r := none) (k := 7) (i := 231) (q := 1015) rfl rfl (by decide +kernel)
theorem yo_181 : pm_okY Y TW 181 (ar 181) ∧ plainName (Y 181).1.cls = true := yo_mk (y := yX12_part) (c := cX12_part) (n := 2) (r := none) (k := 7) (i := 235) (q := 1015) rfl rfl (by decide +kernel)
theorem yo_182 : pm_okY Y TW 182 (ar 182) ∧ plainName (Y 182).1.cls = true := yo_mk (y := yX12_deeper) (c := cX12_deeper) (n := 1) (r := none) (k := 7) (i := 223) (q := 1015) rfl rfl (by decide +kernel)
theorem yo_183 : pm_okY Y TW 183 (ar 183) ∧ plainName (Y 183).1.cls = true := yo_mk (y := yX12_operand) (c := cX12_operand) (n := 5) (r := none) (k := 7) (i := 227) (q := 1015) rfl rfl (by decide +kernel)
theorem yo_184 : pm_okY Y TW 184 (ar 184) ∧ plainName (Y 184).1.cls = true := yo_mk (y := yX12_isOpened) (c := cX12_isOpened) (n := 2) (r := (some .boolean)) (k := 8) (i := 13) (q := 1015) rfl rfl (by decide +kernel)
theorem yo_185 : pm_okY Y TW 185 (ar 185) ∧ plainName (Y 185).1.cls = true := yo_mk (y := yX12_closes) (c := cX12_closes) (n := 1) (r := none) (k := 8) (i := 17) (q := 1015) rfl rfl (by decide +kernel)
theorem yo_186 : pm_okY Y TW 186 (ar 186) ∧ plainName (Y 186).1.cls = true := yo_mk (y := yX12_expression) (c := cX12_expression) (n := 5) (r := none) (k := 7) (i := 219) (q := 1015) rfl rfl (by decide +kernel)
theorem yo_187 : pm_okY Y TW 187 (ar 187) ∧ plainName (Y 187).1.cls = true := yo_mk (y := yX12_begins) (c := cX12_begins) (n := 3) (r := (some .boolean)) (k := 7) (i := 195) (q := 1015) rfl rfl (by decide +kernel)
theorem yo_188 : pm_okY Y TW 188 (ar 188) ∧ plainName (Y 188).1.cls = true := yo_mk (y := yX12_readsWall) (c := cX12_readsWall) (n := 3) (r := none) (k := 7) (i := 199) (q := 1015) rfl rfl (by decide +kernel)
theorem yo_189 : pm_okY Y TW 189 (ar 189) ∧ plainName (Y 189).1.cls = true := yo_mk (y := yX12_readsFigure) (c := cX12_readsFigure) (n := 5) (r := none) (k := 7) (i := 207) (q := 1015) rfl rfl (by decide +kernel)
theorem yo_190 : pm_okY Y TW 190 (ar 190) ∧ plainName (Y 190).1.cls = true := yo_mk (y := yX12_readsSeat) (c := cX12_readsSeat) (n := 1) (r := none) (k := 7) (i := 211) (q := 1015) rfl rfl (by decide +kernel)
theorem yo_191 : pm_okY Y TW 191 (ar 191) ∧ plainName (Y 191).1.cls = true := yo_mk (y := yX12_readsLight) (c := cX12_readsLight) (n := 3) (r := none) (k := 7) (i := 215) (q := 1015) rfl rfl (by decide +kernel)
theorem yo_192 : pm_okY Y TW 192 (ar 192) ∧ plainName (Y 192).1.cls = true := yo_mk (y := yX12_line) (c := cX12_line) (n := 2) (r := none) (k := 7) (i := 191) (q := 1015) rfl rfl (by decide +kernel)
theorem yo_193 : pm_okY Y TW 193 (ar 193) ∧ plainName (Y 193).1.cls = true := yo_mk (y := yX12_town) (c := cX12_town) (n := 3) (r := (some .int)) (k := 7) (i := 138) (q := 1015) rfl rfl (by decide +kernel)
theorem yo_194 : pm_okY Y TW 194 (ar 194) ∧ plainName (Y 194).1.cls = true := yo_mk (y := yX12_fault) (c := cX12_fault) (n := 1) (r := (some .int)) (k := 8) (i := 25) (q := 1015) rfl rfl (by decide +kernel)
theorem yo_195 : pm_okY Y TW 195 (ar 195) ∧ plainName (Y 195).1.cls = true := yo_mk (y := yX12_keeps) (c := cX12_keeps) (n := 2) (r := none) (k := 8) (i := 115) (q := 1015) rfl rfl (by decide +kernel)
theorem yo_196 : pm_okY Y TW 196 (ar 196) ∧ plainName (Y 196).1.cls = true := yo_mk (y := yX12_refuses) (c := cX12_refuses) (n := 2) (r := (some .int)) (k := 8) (i := 111) (q := 1015) rfl rfl (by decide +kernel)
theorem yo_197 : pm_okY Y TW 197 (ar 197) ∧ plainName (Y 197).1.cls = true := yo_mk (y := yX12_undo) (c := cX12_undo) (n := 2) (r := (some .int)) (k := 8) (i := 29) (q := 1015) rfl rfl (by decide +kernel)
theorem yo_198 : pm_okY Y TW 198 (ar 198) ∧ plainName (Y 198).1.cls = true := yo_mk (y := yX12_tries) (c := cX12_tries) (n := 2) (r := none) (k := 8) (i := 180) (q := 1015) rfl rfl (by decide +kernel)
theorem yo_199 : pm_okY Y TW 199 (ar 199) ∧ plainName (Y 199).1.cls = true := yo_mk (y := yX12_works) (c := cX12_works) (n := 3) (r := (some .int)) (k := 8) (i := 138) (q := 1015) rfl rfl (by decide +kernel)
theorem yo_200 : pm_okY Y TW 200 (ar 200) ∧ plainName (Y 200).1.cls = true := yo_mk (y := yX12_reckons) (c := cX12_reckons) (n := 5) (r := (some .int)) (k := 8) (i := 135) (q := 1015) rfl rfl (by decide +kernel)
theorem yo_201 : pm_okY Y TW 201 (ar 201) ∧ plainName (Y 201).1.cls = true := yo_mk (y := yX12_lightAt) (c := cX12_lightAt) (n := 2) (r := (some .int)) (k := 8) (i := 40) (q := 1015) rfl rfl (by decide +kernel)
theorem yo_202 : pm_okY Y TW 202 (ar 202) ∧ plainName (Y 202).1.cls = true := yo_mk (y := yX12_isDull) (c := cX12_isDull) (n := 2) (r := (some .boolean)) (k := 8) (i := 44) (q := 1015) rfl rfl (by decide +kernel)
theorem yo_203 : pm_okY Y TW 203 (ar 203) ∧ plainName (Y 203).1.cls = true := yo_mk (y := yX12_atCell) (c := cX12_atCell) (n := 5) (r := (some .int)) (k := 8) (i := 88) (q := 1015) rfl rfl (by decide +kernel)
theorem yo_204 : pm_okY Y TW 204 (ar 204) ∧ plainName (Y 204).1.cls = true := yo_mk (y := yX12_withIt) (c := cX12_withIt) (n := 3) (r := (some .int)) (k := 8) (i := 84) (q := 1015) rfl rfl (by decide +kernel)
theorem yo_205 : pm_okY Y TW 205 (ar 205) ∧ plainName (Y 205).1.cls = true := yo_mk (y := yX12_stepOf) (c := cX12_stepOf) (n := 3) (r := (some .int)) (k := 8) (i := 80) (q := 1015) rfl rfl (by decide +kernel)
theorem yo_206 : pm_okY Y TW 206 (ar 206) ∧ plainName (Y 206).1.cls = true := yo_mk (y := yX12_tells) (c := cX12_tells) (n := 3) (r := none) (k := 8) (i := 131) (q := 1015) rfl rfl (by decide +kernel)
theorem yo_207 : pm_okY Y TW 207 (ar 207) ∧ plainName (Y 207).1.cls = true := yo_mk (y := yX12_hurtsBy) (c := cX12_hurtsBy) (n := 3) (r := (some .int)) (k := 8) (i := 127) (q := 1015) rfl rfl (by decide +kernel)
theorem yo_208 : pm_okY Y TW 208 (ar 208) ∧ plainName (Y 208).1.cls = true := yo_mk (y := yX12_isGoing) (c := cX12_isGoing) (n := 3) (r := (some .boolean)) (k := 8) (i := 148) (q := 1015) rfl rfl (by decide +kernel)
theorem yo_209 : pm_okY Y TW 209 (ar 209) ∧ plainName (Y 209).1.cls = true := yo_mk (y := yX12_beside) (c := cX12_beside) (n := 3) (r := (some .int)) (k := 8) (i := 60) (q := 1015) rfl rfl (by decide +kernel)
theorem yo_210 : pm_okY Y TW 210 (ar 210) ∧ plainName (Y 210).1.cls = true := yo_mk (y := yX12_figureGoes) (c := cX12_figureGoes) (n := 4) (r := none) (k := 8) (i := 123) (q := 1015) rfl rfl (by decide +kernel)
theorem yo_211 : pm_okY Y TW 211 (ar 211) ∧ plainName (Y 211).1.cls = true := yo_mk (y := yX12_hourGoes) (c := cX12_hourGoes) (n := 3) (r := none) (k := 8) (i := 119) (q := 1015) rfl rfl (by decide +kernel)
theorem yo_212 : pm_okY Y TW 212 (ar 212) ∧ plainName (Y 212).1.cls = true := yo_mk (y := yX12_hoursGo) (c := cX12_hoursGo) (n := 3) (r := none) (k := 8) (i := 184) (q := 1015) rfl rfl (by decide +kernel)
theorem yo_213 : pm_okY Y TW 213 (ar 213) ∧ plainName (Y 213).1.cls = true := yo_mk (y := yX12_sumOf) (c := cX12_sumOf) (n := 6) (r := (some .int)) (k := 8) (i := 48) (q := 1015) rfl rfl (by decide +kernel)
theorem yo_214 : pm_okY Y TW 214 (ar 214) ∧ plainName (Y 214).1.cls = true := yo_mk (y := yX12_heldOnes) (c := cX12_heldOnes) (n := 3) (r := (some .int)) (k := 8) (i := 64) (q := 1015) rfl rfl (by decide +kernel)
theorem yo_215 : pm_okY Y TW 215 (ar 215) ∧ plainName (Y 215).1.cls = true := yo_mk (y := yX12_laysFar) (c := cX12_laysFar) (n := 7) (r := none) (k := 8) (i := 56) (q := 1015) rfl rfl (by decide +kernel)
theorem yo_216 : pm_okY Y TW 216 (ar 216) ∧ plainName (Y 216).1.cls = true := yo_mk (y := yX12_parts) (c := cX12_parts) (n := 5) (r := (some .int)) (k := 8) (i := 52) (q := 1015) rfl rfl (by decide +kernel)
theorem yo_217 : pm_okY Y TW 217 (ar 217) ∧ plainName (Y 217).1.cls = true := yo_mk (y := yX12_count) (c := cX12_count) (n := 2) (r := (some .int)) (k := 8) (i := 33) (q := 1015) rfl rfl (by decide +kernel)
theorem yo_218 : pm_okY Y TW 218 (ar 218) ∧ plainName (Y 218).1.cls = true := yo_mk (y := yX12_isFigure) (c := cX12_isFigure) (n := 2) (r := (some .boolean)) (k := 8) (i := 72) (q := 1015) rfl rfl (by decide +kernel)
theorem yo_219 : pm_okY Y TW 219 (ar 219) ∧ plainName (Y 219).1.cls = true := yo_mk (y := yX12_isCell) (c := cX12_isCell) (n := 2) (r := (some .boolean)) (k := 8) (i := 99) (q := 1015) rfl rfl (by decide +kernel)
theorem yo_220 : pm_okY Y TW 220 (ar 220) ∧ plainName (Y 220).1.cls = true := yo_mk (y := yX12_isWhat) (c := cX12_isWhat) (n := 3) (r := (some .boolean)) (k := 8) (i := 76) (q := 1015) rfl rfl (by decide +kernel)
theorem yo_221 : pm_okY Y TW 221 (ar 221) ∧ plainName (Y 221).1.cls = true := yo_mk (y := yX12_isSoon) (c := cX12_isSoon) (n := 4) (r := (some .boolean)) (k := 8) (i := 172) (q := 1015) rfl rfl (by decide +kernel)
theorem yo_222 : pm_okY Y TW 222 (ar 222) ∧ plainName (Y 222).1.cls = true := yo_mk (y := yX12_figure) (c := cX12_figure) (n := 3) (r := (some .int)) (k := 8) (i := 68) (q := 1015) rfl rfl (by decide +kernel)
theorem yo_223 : pm_okY Y TW 223 (ar 223) ∧ plainName (Y 223).1.cls = true := yo_mk (y := yX12_seenFrom) (c := cX12_seenFrom) (n := 5) (r := (some .int)) (k := 8) (i := 103) (q := 1015) rfl rfl (by decide +kernel)
theorem yo_224 : pm_okY Y TW 224 (ar 224) ∧ plainName (Y 224).1.cls = true := yo_mk (y := yX12_cell) (c := cX12_cell) (n := 5) (r := (some .int)) (k := 8) (i := 95) (q := 1015) rfl rfl (by decide +kernel)
theorem yo_225 : pm_okY Y TW 225 (ar 225) ∧ plainName (Y 225).1.cls = true := yo_mk (y := yX12_hours) (c := cX12_hours) (n := 3) (r := (some .int)) (k := 8) (i := 107) (q := 1015) rfl rfl (by decide +kernel)
theorem yo_226 : pm_okY Y TW 226 (ar 226) ∧ plainName (Y 226).1.cls = true := yo_mk (y := yX12_stop) (c := cX12_stop) (n := 3) (r := (some .int)) (k := 8) (i := 152) (q := 1015) rfl rfl (by decide +kernel)
theorem yo_227 : pm_okY Y TW 227 (ar 227) ∧ plainName (Y 227).1.cls = true := yo_mk (y := yX12_lift) (c := cX12_lift) (n := 4) (r := (some .int)) (k := 8) (i := 156) (q := 1015) rfl rfl (by decide +kernel)
theorem yo_228 : pm_okY Y TW 228 (ar 228) ∧ plainName (Y 228).1.cls = true := yo_mk (y := yX12_brush) (c := cX12_brush) (n := 3) (r := (some .int)) (k := 8) (i := 160) (q := 1015) rfl rfl (by decide +kernel)
theorem yo_229 : pm_okY Y TW 229 (ar 229) ∧ plainName (Y 229).1.cls = true := yo_mk (y := yX12_wall) (c := cX12_wall) (n := 5) (r := (some .boolean)) (k := 8) (i := 164) (q := 1015) rfl rfl (by decide +kernel)
theorem yo_230 : pm_okY Y TW 230 (ar 230) ∧ plainName (Y 230).1.cls = true := yo_mk (y := yX12_goesTo) (c := cX12_goesTo) (n := 2) (r := none) (k := 8) (i := 176) (q := 1015) rfl rfl (by decide +kernel)
theorem yo_231 : pm_okY Y TW 231 (ar 231) ∧ plainName (Y 231).1.cls = true := yo_mk (y := yX12_then) (c := cX12_then) (n := 4) (r := (some .int)) (k := 8) (i := 168) (q := 1015) rfl rfl (by decide +kernel)
theorem yo_232 : pm_okY Y TW 232 (ar 232) ∧ plainName (Y 232).1.cls = true := yo_mk (y := yX12_comes) (c := cX12_comes) (n := 4) (r := (some .int)) (k := 8) (i := 188) (q := 1015) rfl rfl (by decide +kernel)
theorem yo_233 : pm_okY Y TW 233 (ar 233) ∧ plainName (Y 233).1.cls = true := yo_mk (y := yX12_meet) (c := cX12_meet) (n := 4) (r := (some .int)) (k := 8) (i := 192) (q := 1015) rfl rfl (by decide +kernel)
theorem yo_234 : pm_okY Y TW 234 (ar 234) ∧ plainName (Y 234).1.cls = true := yo_mk (y := yX12_mostOften) (c := cX12_mostOften) (n := 3) (r := (some .int)) (k := 8) (i := 208) (q := 1015) rfl rfl (by decide +kernel)
theorem yo_235 : pm_okY Y TW 235 (ar 235) ∧ plainName (Y 235).1.cls = true := yo_mk (y := yX12_clears) (c := cX12_clears) (n := 2) (r := none) (k := 8) (i := 200) (q := 1015) rfl rfl (by decide +kernel)
theorem yo_236 : pm_okY Y TW 236 (ar 236) ∧ plainName (Y 236).1.cls = true := yo_mk (y := yX12_marks) (c := cX12_marks) (n := 2) (r := none) (k := 8) (i := 204) (q := 1015) rfl rfl (by decide +kernel)
theorem yo_237 : pm_okY Y TW 237 (ar 237) ∧ plainName (Y 237).1.cls = true := yo_mk (y := yX12_crowd) (c := cX12_crowd) (n := 4) (r := (some .int)) (k := 8) (i := 196) (q := 1015) rfl rfl (by decide +kernel)
theorem yo_238 : pm_okY Y TW 238 (ar 238) ∧ plainName (Y 238).1.cls = true := yo_mk (y := yX12_areAsNow) (c := cX12_areAsNow) (n := 3) (r := (some .boolean)) (k := 8) (i := 216) (q := 1015) rfl rfl (by decide +kernel)
theorem yo_239 : pm_okY Y TW 239 (ar 239) ∧ plainName (Y 239).1.cls = true := yo_mk (y := yX12_round) (c := cX12_round) (n := 2) (r := (some .int)) (k := 8) (i := 212) (q := 1015) rfl rfl (by decide +kernel)
theorem yo_240 : pm_okY Y TW 240 (ar 240) ∧ plainName (Y 240).1.cls = true := yo_mk (y := yX12_spread) (c := cX12_spread) (n := 5) (r := (some .int)) (k := 8) (i := 220) (q := 1015) rfl rfl (by decide +kernel)
theorem yo_241 : pm_okY Y TW 241 (ar 241) ∧ plainName (Y 241).1.cls = true := yo_mk (y := yX12_later) (c := cX12_later) (n := 7) (r := (some .int)) (k := 8) (i := 224) (q := 1015) rfl rfl (by decide +kernel)
theorem yo_242 : pm_okY Y TW 242 (ar 242) ∧ plainName (Y 242).1.cls = true := yo_mk (y := yX12_together) (c := cX12_together) (n := 6) (r := (some .int)) (k := 8) (i := 228) (q := 1015) rfl rfl (by decide +kernel)
theorem yo_243 : pm_okY Y TW 243 (ar 243) ∧ plainName (Y 243).1.cls = true := yo_mk (y := yX12_quiet) (c := cX12_quiet) (n := 5) (r := (some .int)) (k := 8) (i := 232) (q := 1015) rfl rfl (by decide +kernel)
theorem yo_244 : pm_okY Y TW 244 (ar 244) ∧ plainName (Y 244).1.cls = true := yo_mk (y := yX12_gone) (c := cX12_gone) (n := 6) (r := (some .int)) (k := 8) (i := 236) (q := 1015) rfl rfl (by decide +kernel)
theorem yo_245 : pm_okY Y TW 245 (ar 245) ∧ plainName (Y 245).1.cls = true := yo_mk (y := yX12_way) (c := cX12_way) (n := 7) (r := (some .int)) (k := 9) (i := 0) (q := 1015) rfl rfl (by decide +kernel)
theorem yo_246 : pm_okY Y TW 246 (ar 246) ∧ plainName (Y 246).1.cls = true := yo_mk (y := yX12_toStop) (c := cX12_toStop) (n := 5) (r := (some .int)) (k := 9) (i := 4) (q := 1015) rfl rfl (by decide +kernel)
theorem yo_247 : pm_okY Y TW 247 (ar 247) ∧ plainName (Y 247).1.cls = true := yo_mk (y := yX12_toThin) (c := cX12_toThin) (n := 6) (r := (some .int)) (k := 9) (i := 8) (q := 1015) rfl rfl (by decide +kernel)
theorem yo_248 : pm_okY Y TW 248 (ar 248) ∧ plainName (Y 248).1.cls = true := yo_mk (y := yX12_sits) (c := cX12_sits) (n := 4) (r := (some .int)) (k := 9) (i := 24) (q := 1015) rfl rfl (by decide +kernel)
theorem yo_249 : pm_okY Y TW 249 (ar 249) ∧ plainName (Y 249).1.cls = true := yo_mk (y := yX12_canSit) (c := cX12_canSit) (n := 4) (r := (some .boolean)) (k := 9) (i := 20) (q := 1015) rfl rfl (by decide +kernel)
theorem yo_250 : pm_okY Y TW 250 (ar 250) ∧ plainName (Y 250).1.cls = true := yo_mk (y := yX12_laysSeats) (c := cX12_laysSeats) (n := 5) (r := none) (k := 9) (i := 16) (q := 1015) rfl rfl (by decide +kernel)
theorem yo_251 : pm_okY Y TW 251 (ar 251) ∧ plainName (Y 251).1.cls = true := yo_mk (y := yX12_seats) (c := cX12_seats) (n := 2) (r := (some .int)) (k := 9) (i := 12) (q := 1015) rfl rfl (by decide +kernel)
theorem yo_252 : pm_okY Y TW 252 (ar 252) ∧ plainName (Y 252).1.cls = true := yo_mk (y := yX12_seat) (c := cX12_seat) (n := 6) (r := (some .int)) (k := 9) (i := 28) (q := 1015) rfl rfl (by decide +kernel)
theorem yo_253 : pm_okY Y TW 253 (ar 253) ∧ plainName (Y 253).1.cls = true := yo_mk (y := yX12_note) (c := cX12_note) (n := 4) (r := (some .int)) (k := 9) (i := 32) (q := 1015) rfl rfl (by decide +kernel)
theorem yo_254 : pm_okY Y TW 254 (ar 254) ∧ plainName (Y 254).1.cls = true := yo_mk (y := yX12_forget) (c := cX12_forget) (n := 1) (r := none) (k := 9) (i := 36) (q := 1015) rfl rfl (by decide +kernel)
theorem yo_255 : pm_okY Y TW 255 (ar 255) ∧ plainName (Y 255).1.cls = true := yo_mk (y := yX12_isNoted) (c := cX12_isNoted) (n := 3) (r := (some .boolean)) (k := 9) (i := 44) (q := 1015) rfl rfl (by decide +kernel)
theorem yo_256 : pm_okY Y TW 256 (ar 256) ∧ plainName (Y 256).1.cls = true := yo_mk (y := yX12_isGuess) (c := cX12_isGuess) (n := 3) (r := (some .boolean)) (k := 9) (i := 48) (q := 1015) rfl rfl (by decide +kernel)
theorem yo_257 : pm_okY Y TW 257 (ar 257) ∧ plainName (Y 257).1.cls = true := yo_mk (y := yX12_ahead) (c := cX12_ahead) (n := 5) (r := (some .int)) (k := 9) (i := 40) (q := 1015) rfl rfl (by decide +kernel)
theorem yo_258 : pm_okY Y TW 258 (ar 258) ∧ plainName (Y 258).1.cls = true := yo_mk (y := yX12_look) (c := cX12_look) (n := 10) (r := (some .int)) (k := 9) (i := 52) (q := 1015) rfl rfl (by decide +kernel)
theorem yo_259 : pm_okY Y TW 259 (ar 259) ∧ plainName (Y 259).1.cls = true := yo_mk (y := yX12_clouds) (c := cX12_clouds) (n := 9) (r := (some .int)) (k := 9) (i := 56) (q := 1015) rfl rfl (by decide +kernel)
theorem yo_260 : pm_okY Y TW 260 (ar 260) ∧ plainName (Y 260).1.cls = true := yo_mk (y := yX12_gains) (c := cX12_gains) (n := 7) (r := (some .int)) (k := 9) (i := 64) (q := 1015) rfl rfl (by decide +kernel)
theorem yo_261 : pm_okY Y TW 261 (ar 261) ∧ plainName (Y 261).1.cls = true := yo_mk (y := yX12_game) (c := cX12_game) (n := 9) (r := (some .int)) (k := 9) (i := 60) (q := 1015) rfl rfl (by decide +kernel)
theorem yo_262 : pm_okY Y TW 262 (ar 262) ∧ plainName (Y 262).1.cls = true := yo_mk (y := yX12_draw) (c := cX12_draw) (n := 2) (r := (some .int)) (k := 9) (i := 76) (q := 1015) rfl rfl (by decide +kernel)
theorem yo_263 : pm_okY Y TW 263 (ar 263) ∧ plainName (Y 263).1.cls = true := yo_mk (y := yX12_happens) (c := cX12_happens) (n := 4) (r := none) (k := 9) (i := 72) (q := 1015) rfl rfl (by decide +kernel)
theorem yo_264 : pm_okY Y TW 264 (ar 264) ∧ plainName (Y 264).1.cls = true := yo_mk (y := yX12_years) (c := cX12_years) (n := 8) (r := (some .int)) (k := 9) (i := 68) (q := 1015) rfl rfl (by decide +kernel)
theorem yo_265 : pm_okY Y TW 265 (ar 265) ∧ plainName (Y 265).1.cls = true := yo_mk (y := yX12_image) (c := cX12_image) (n := 2) (r := none) (k := 9) (i := 81) (q := 1015) rfl rfl (by decide +kernel)
theorem yo_266 : pm_okY Y TW 266 (ar 266) ∧ plainName (Y 266).1.cls = true := yo_mk (y := yX12_restore) (c := cX12_restore) (n := 2) (r := (some .boolean)) (k := 9) (i := 85) (q := 1015) rfl rfl (by decide +kernel)
theorem yo_267 : pm_okY Y TW 267 (ar 267) ∧ plainName (Y 267).1.cls = true := yo_mk (y := yJ6_bitCount_0f7a4) (c := cJ6_bitCount_0f7a4) (n := 1) (r := (some .int)) (k := 5) (i := 157) (q := 1028) rfl rfl (by decide +kernel)
theorem yo_268 : pm_okY Y TW 268 (ar 268) ∧ plainName (Y 268).1.cls = true := yo_mk (y := yJ13_bitCount_95d88) (c := cJ13_bitCount_95d88) (n := 2) (r := (some .int)) (k := 5) (i := 6) (q := 1026) rfl rfl (by decide +kernel)
theorem yo_269 : pm_okY Y TW 269 (ar 269) ∧ plainName (Y 269).1.cls = true := yo_mk (y := yJ9_max_7cf53) (c := cJ9_max_7cf53) (n := 2) (r := (some .int)) (k := 3) (i := 41) (q := 1020) rfl rfl (by decide +kernel)
theorem yo_270 : pm_okY Y TW 270 (ar 270) ∧ plainName (Y 270).1.cls = true := yo_mk (y := yJ9_min_7cf53) (c := cJ9_min_7cf53) (n := 2) (r := (some .int)) (k := 2) (i := 233) (q := 1020) rfl rfl (by decide +kernel)
theorem yo_271 : pm_okY Y TW 271 (ar 271) ∧ plainName (Y 271).1.cls = true := yo_mk (y := yJ7_fill_d0a16) (c := cJ7_fill_d0a16) (n := 5) (r := none) (k := 6) (i := 34) (q := 1014) rfl rfl (by decide +kernel)
theorem yo_272 : pm_okY Y TW 272 (ar 272) ∧ plainName (Y 272).1.cls = true := yo_mk (y := yJ7_fill_53178) (c := cJ7_fill_53178) (n := 4) (r := none) (k := 2) (i := 141) (q := 1014) rfl rfl (by decide +kernel)
theorem yo_273 : pm_okY Y TW 273 (ar 273) ∧ plainName (Y 273).1.cls = true := yo_mk (y := yJ0_length_8abf5) (c := cJ0_length_8abf5) (n := 1) (r := (some .int)) (k := 4) (i := 0) (q := 1021) rfl rfl (by decide +kernel)
theorem yo_274 : pm_okY Y TW 274 (ar 274) ∧ plainName (Y 274).1.cls = true := yo_mk (y := yJ0_charAt_5068e) (c := cJ0_charAt_5068e) (n := 2) (r := (some .char)) (k := 4) (i := 74) (q := 1021) rfl rfl (by decide +kernel)
theorem yo_275 : pm_okY Y TW 275 (ar 275) ∧ plainName (Y 275).1.cls = true := yo_mk (y := yJ0_indexOf_0f7a4) (c := cJ0_indexOf_0f7a4) (n := 2) (r := (some .int)) (k := 3) (i := 226) (q := 1021) rfl rfl (by decide +kernel)
theorem yo_c0 : ∀ j ∈ [0, 1, 2, 3, 4, 5, 6, 7, 8, 9, 10, 11, 12, 13, 14, 15, 16, 17, 18, 19, 20, 21, 22], pm_okY Y TW j (ar j) ∧ plainName (Y j).1.cls = true := List.forall_mem_cons.mpr ⟨yo_0, List.forall_mem_cons.mpr ⟨yo_1, List.forall_mem_cons.mpr ⟨yo_2, List.forall_mem_cons.mpr ⟨yo_3, List.forall_mem_cons.mpr ⟨yo_4, List.forall_mem_cons.mpr ⟨yo_5, List.forall_mem_cons.mpr ⟨yo_6, List.forall_mem_cons.mpr ⟨yo_7, List.forall_mem_cons.mpr ⟨yo_8, List.forall_mem_cons.mpr ⟨yo_9, List.forall_mem_cons.mpr ⟨yo_10, List.forall_mem_cons.mpr ⟨yo_11, List.forall_mem_cons.mpr ⟨yo_12, List.forall_mem_cons.mpr ⟨yo_13, List.forall_mem_cons.mpr ⟨yo_14, List.forall_mem_cons.mpr ⟨yo_15, List.forall_mem_cons.mpr ⟨yo_16, List.forall_mem_cons.mpr ⟨yo_17, List.forall_mem_cons.mpr ⟨yo_18, List.forall_mem_cons.mpr ⟨yo_19, List.forall_mem_cons.mpr ⟨yo_20, List.forall_mem_cons.mpr ⟨yo_21, List.forall_mem_cons.mpr ⟨yo_22, fun _ h => absurd h List.not_mem_nil⟩⟩⟩⟩⟩⟩⟩⟩⟩⟩⟩⟩⟩⟩⟩⟩⟩⟩⟩⟩⟩⟩⟩
theorem yo_c1 : ∀ j ∈ [23, 24, 25, 26, 27, 28, 29, 30, 31, 32, 33, 34, 35, 36, 37, 38, 39, 40, 41, 42, 43, 44, 45], pm_okY Y TW j (ar j) ∧ plainName (Y j).1.cls = true := List.forall_mem_cons.mpr ⟨yo_23, List.forall_mem_cons.mpr ⟨yo_24, List.forall_mem_cons.mpr ⟨yo_25, List.forall_mem_cons.mpr ⟨yo_26, List.forall_mem_cons.mpr ⟨yo_27, List.forall_mem_cons.mpr ⟨yo_28, List.forall_mem_cons.mpr ⟨yo_29, List.forall_mem_cons.mpr ⟨yo_30, List.forall_mem_cons.mpr ⟨yo_31, List.forall_mem_cons.mpr ⟨yo_32, List.forall_mem_cons.mpr ⟨yo_33, List.forall_mem_cons.mpr ⟨yo_34, List.forall_mem_cons.mpr ⟨yo_35, List.forall_mem_cons.mpr ⟨yo_36, List.forall_mem_cons.mpr ⟨yo_37, List.forall_mem_cons.mpr ⟨yo_38, List.forall_mem_cons.mpr ⟨yo_39, List.forall_mem_cons.mpr ⟨yo_40, List.forall_mem_cons.mpr ⟨yo_41, List.forall_mem_cons.mpr ⟨yo_42, List.forall_mem_cons.mpr ⟨yo_43, List.forall_mem_cons.mpr ⟨yo_44, List.forall_mem_cons.mpr ⟨yo_45, fun _ h => absurd h List.not_mem_nil⟩⟩⟩⟩⟩⟩⟩⟩⟩⟩⟩⟩⟩⟩⟩⟩⟩⟩⟩⟩⟩⟩⟩
theorem yo_c2 : ∀ j ∈ [46, 47, 48, 49, 50, 51, 52, 53, 54, 55, 56, 57, 58, 59, 60, 61, 62, 63, 64, 65, 66, 67, 68], pm_okY Y TW j (ar j) ∧ plainName (Y j).1.cls = true := List.forall_mem_cons.mpr ⟨yo_46, List.forall_mem_cons.mpr ⟨yo_47, List.forall_mem_cons.mpr ⟨yo_48, List.forall_mem_cons.mpr ⟨yo_49, List.forall_mem_cons.mpr ⟨yo_50, List.forall_mem_cons.mpr ⟨yo_51, List.forall_mem_cons.mpr ⟨yo_52, List.forall_mem_cons.mpr ⟨yo_53, List.forall_mem_cons.mpr ⟨yo_54, List.forall_mem_cons.mpr ⟨yo_55, List.forall_mem_cons.mpr ⟨yo_56, List.forall_mem_cons.mpr ⟨yo_57, List.forall_mem_cons.mpr ⟨yo_58, List.forall_mem_cons.mpr ⟨yo_59, List.forall_mem_cons.mpr ⟨yo_60, List.forall_mem_cons.mpr ⟨yo_61, List.forall_mem_cons.mpr ⟨yo_62, List.forall_mem_cons.mpr ⟨yo_63, List.forall_mem_cons.mpr ⟨yo_64, List.forall_mem_cons.mpr ⟨yo_65, List.forall_mem_cons.mpr ⟨yo_66, List.forall_mem_cons.mpr ⟨yo_67, List.forall_mem_cons.mpr ⟨yo_68, fun _ h => absurd h List.not_mem_nil⟩⟩⟩⟩⟩⟩⟩⟩⟩⟩⟩⟩⟩⟩⟩⟩⟩⟩⟩⟩⟩⟩⟩
theorem yo_c3 : ∀ j ∈ [69, 70, 71, 72, 73, 74, 75, 76, 77, 78, 79, 80, 81, 82, 83, 84, 85, 86, 87, 88, 89, 90, 91], pm_okY Y TW j (ar j) ∧ plainName (Y j).1.cls = true := List.forall_mem_cons.mpr ⟨yo_69, List.forall_mem_cons.mpr ⟨yo_70, List.forall_mem_cons.mpr ⟨yo_71, List.forall_mem_cons.mpr ⟨yo_72, List.forall_mem_cons.mpr ⟨yo_73, List.forall_mem_cons.mpr ⟨yo_74, List.forall_mem_cons.mpr ⟨yo_75, List.forall_mem_cons.mpr ⟨yo_76, List.forall_mem_cons.mpr ⟨yo_77, List.forall_mem_cons.mpr ⟨yo_78, List.forall_mem_cons.mpr ⟨yo_79, List.forall_mem_cons.mpr ⟨yo_80, List.forall_mem_cons.mpr ⟨yo_81, List.forall_mem_cons.mpr ⟨yo_82, List.forall_mem_cons.mpr ⟨yo_83, List.forall_mem_cons.mpr ⟨yo_84, List.forall_mem_cons.mpr ⟨yo_85, List.forall_mem_cons.mpr ⟨yo_86, List.forall_mem_cons.mpr ⟨yo_87, List.forall_mem_cons.mpr ⟨yo_88, List.forall_mem_cons.mpr ⟨yo_89, List.forall_mem_cons.mpr ⟨yo_90, List.forall_mem_cons.mpr ⟨yo_91, fun _ h => absurd h List.not_mem_nil⟩⟩⟩⟩⟩⟩⟩⟩⟩⟩⟩⟩⟩⟩⟩⟩⟩⟩⟩⟩⟩⟩⟩
theorem yo_c4 : ∀ j ∈ [92, 93, 94, 95, 96, 97, 98, 99, 100, 101, 102, 103, 104, 105, 106, 107, 108, 109, 110, 111, 112, 113, 114], pm_okY Y TW j (ar j) ∧ plainName (Y j).1.cls = true := List.forall_mem_cons.mpr ⟨yo_92, List.forall_mem_cons.mpr ⟨yo_93, List.forall_mem_cons.mpr ⟨yo_94, List.forall_mem_cons.mpr ⟨yo_95, List.forall_mem_cons.mpr ⟨yo_96, List.forall_mem_cons.mpr ⟨yo_97, List.forall_mem_cons.mpr ⟨yo_98, List.forall_mem_cons.mpr ⟨yo_99, List.forall_mem_cons.mpr ⟨yo_100, List.forall_mem_cons.mpr ⟨yo_101, List.forall_mem_cons.mpr ⟨yo_102, List.forall_mem_cons.mpr ⟨yo_103, List.forall_mem_cons.mpr ⟨yo_104, List.forall_mem_cons.mpr ⟨yo_105, List.forall_mem_cons.mpr ⟨yo_106, List.forall_mem_cons.mpr ⟨yo_107, List.forall_mem_cons.mpr ⟨yo_108, List.forall_mem_cons.mpr ⟨yo_109, List.forall_mem_cons.mpr ⟨yo_110, List.forall_mem_cons.mpr ⟨yo_111, List.forall_mem_cons.mpr ⟨yo_112, List.forall_mem_cons.mpr ⟨yo_113, List.forall_mem_cons.mpr ⟨yo_114, fun _ h => absurd h List.not_mem_nil⟩⟩⟩⟩⟩⟩⟩⟩⟩⟩⟩⟩⟩⟩⟩⟩⟩⟩⟩⟩⟩⟩⟩
theorem yo_c5 : ∀ j ∈ [115, 116, 117, 118, 119, 120, 121, 122, 123, 124, 125, 126, 127, 128, 129, 130, 131, 132, 133, 134, 135, 136, 137], pm_okY Y TW j (ar j) ∧ plainName (Y j).1.cls = true := List.forall_mem_cons.mpr ⟨yo_115, List.forall_mem_cons.mpr ⟨yo_116, List.forall_mem_cons.mpr ⟨yo_117, List.forall_mem_cons.mpr ⟨yo_118, List.forall_mem_cons.mpr ⟨yo_119, List.forall_mem_cons.mpr ⟨yo_120, List.forall_mem_cons.mpr ⟨yo_121, List.forall_mem_cons.mpr ⟨yo_122, List.forall_mem_cons.mpr ⟨yo_123, List.forall_mem_cons.mpr ⟨yo_124, List.forall_mem_cons.mpr ⟨yo_125, List.forall_mem_cons.mpr ⟨yo_126, List.forall_mem_cons.mpr ⟨yo_127, List.forall_mem_cons.mpr ⟨yo_128, List.forall_mem_cons.mpr ⟨yo_129, List.forall_mem_cons.mpr ⟨yo_130, List.forall_mem_cons.mpr ⟨yo_131, List.forall_mem_cons.mpr ⟨yo_132, List.forall_mem_cons.mpr ⟨yo_133, List.forall_mem_cons.mpr ⟨yo_134, List.forall_mem_cons.mpr ⟨yo_135, List.forall_mem_cons.mpr ⟨yo_136, List.forall_mem_cons.mpr ⟨yo_137, fun _ h => absurd h List.not_mem_nil⟩⟩⟩⟩⟩⟩⟩⟩⟩⟩⟩⟩⟩⟩⟩⟩⟩⟩⟩⟩⟩⟩⟩
theorem yo_c6 : ∀ j ∈ [138, 139, 140, 141, 142, 143, 144, 145, 146, 147, 148, 149, 150, 151, 152, 153, 154, 155, 156, 157, 158, 159, 160], pm_okY Y TW j (ar j) ∧ plainName (Y j).1.cls = true := List.forall_mem_cons.mpr ⟨yo_138, List.forall_mem_cons.mpr ⟨yo_139, List.forall_mem_cons.mpr ⟨yo_140, List.forall_mem_cons.mpr ⟨yo_141, List.forall_mem_cons.mpr ⟨yo_142, List.forall_mem_cons.mpr ⟨yo_143, List.forall_mem_cons.mpr ⟨yo_144, List.forall_mem_cons.mpr ⟨yo_145, List.forall_mem_cons.mpr ⟨yo_146, List.forall_mem_cons.mpr ⟨yo_147, List.forall_mem_cons.mpr ⟨yo_148, List.forall_mem_cons.mpr ⟨yo_149, List.forall_mem_cons.mpr ⟨yo_150, List.forall_mem_cons.mpr ⟨yo_151, List.forall_mem_cons.mpr ⟨yo_152, List.forall_mem_cons.mpr ⟨yo_153, List.forall_mem_cons.mpr ⟨yo_154, List.forall_mem_cons.mpr ⟨yo_155, List.forall_mem_cons.mpr ⟨yo_156, List.forall_mem_cons.mpr ⟨yo_157, List.forall_mem_cons.mpr ⟨yo_158, List.forall_mem_cons.mpr ⟨yo_159, List.forall_mem_cons.mpr ⟨yo_160, fun _ h => absurd h List.not_mem_nil⟩⟩⟩⟩⟩⟩⟩⟩⟩⟩⟩⟩⟩⟩⟩⟩⟩⟩⟩⟩⟩⟩⟩
theorem yo_c7 : ∀ j ∈ [161, 162, 163, 164, 165, 166, 167, 168, 169, 170, 171, 172, 173, 174, 175, 176, 177, 178, 179, 180, 181, 182, 183], pm_okY Y TW j (ar j) ∧ plainName (Y j).1.cls = true := List.forall_mem_cons.mpr ⟨yo_161, List.forall_mem_cons.mpr ⟨yo_162, List.forall_mem_cons.mpr ⟨yo_163, List.forall_mem_cons.mpr ⟨yo_164, List.forall_mem_cons.mpr ⟨yo_165, List.forall_mem_cons.mpr ⟨yo_166, List.forall_mem_cons.mpr ⟨yo_167, List.forall_mem_cons.mpr ⟨yo_168, List.forall_mem_cons.mpr ⟨yo_169, List.forall_mem_cons.mpr ⟨yo_170, List.forall_mem_cons.mpr ⟨yo_171, List.forall_mem_cons.mpr ⟨yo_172, List.forall_mem_cons.mpr ⟨yo_173, List.forall_mem_cons.mpr ⟨yo_174, List.forall_mem_cons.mpr ⟨yo_175, List.forall_mem_cons.mpr ⟨yo_176, List.forall_mem_cons.mpr ⟨yo_177, List.forall_mem_cons.mpr ⟨yo_178, List.forall_mem_cons.mpr ⟨yo_179, List.forall_mem_cons.mpr ⟨yo_180, List.forall_mem_cons.mpr ⟨yo_181, List.forall_mem_cons.mpr ⟨yo_182, List.forall_mem_cons.mpr ⟨yo_183, fun _ h => absurd h List.not_mem_nil⟩⟩⟩⟩⟩⟩⟩⟩⟩⟩⟩⟩⟩⟩⟩⟩⟩⟩⟩⟩⟩⟩⟩
theorem yo_c8 : ∀ j ∈ [184, 185, 186, 187, 188, 189, 190, 191, 192, 193, 194, 195, 196, 197, 198, 199, 200, 201, 202, 203, 204, 205, 206], pm_okY Y TW j (ar j) ∧ plainName (Y j).1.cls = true := List.forall_mem_cons.mpr ⟨yo_184, List.forall_mem_cons.mpr ⟨yo_185, List.forall_mem_cons.mpr ⟨yo_186, List.forall_mem_cons.mpr ⟨yo_187, List.forall_mem_cons.mpr ⟨yo_188, List.forall_mem_cons.mpr ⟨yo_189, List.forall_mem_cons.mpr ⟨yo_190, List.forall_mem_cons.mpr ⟨yo_191, List.forall_mem_cons.mpr ⟨yo_192, List.forall_mem_cons.mpr ⟨yo_193, List.forall_mem_cons.mpr ⟨yo_194, List.forall_mem_cons.mpr ⟨yo_195, List.forall_mem_cons.mpr ⟨yo_196, List.forall_mem_cons.mpr ⟨yo_197, List.forall_mem_cons.mpr ⟨yo_198, List.forall_mem_cons.mpr ⟨yo_199, List.forall_mem_cons.mpr ⟨yo_200, List.forall_mem_cons.mpr ⟨yo_201, List.forall_mem_cons.mpr ⟨yo_202, List.forall_mem_cons.mpr ⟨yo_203, List.forall_mem_cons.mpr ⟨yo_204, List.forall_mem_cons.mpr ⟨yo_205, List.forall_mem_cons.mpr ⟨yo_206, fun _ h => absurd h List.not_mem_nil⟩⟩⟩⟩⟩⟩⟩⟩⟩⟩⟩⟩⟩⟩⟩⟩⟩⟩⟩⟩⟩⟩⟩
theorem yo_c9 : ∀ j ∈ [207, 208, 209, 210, 211, 212, 213, 214, 215, 216, 217, 218, 219, 220, 221, 222, 223, 224, 225, 226, 227, 228, 229], pm_okY Y TW j (ar j) ∧ plainName (Y j).1.cls = true := List.forall_mem_cons.mpr ⟨yo_207, List.forall_mem_cons.mpr ⟨yo_208, List.forall_mem_cons.mpr ⟨yo_209, List.forall_mem_cons.mpr ⟨yo_210, List.forall_mem_cons.mpr ⟨yo_211, List.forall_mem_cons.mpr ⟨yo_212, List.forall_mem_cons.mpr ⟨yo_213, List.forall_mem_cons.mpr ⟨yo_214, List.forall_mem_cons.mpr ⟨yo_215, List.forall_mem_cons.mpr ⟨yo_216, List.forall_mem_cons.mpr ⟨yo_217, List.forall_mem_cons.mpr ⟨yo_218, List.forall_mem_cons.mpr ⟨yo_219, List.forall_mem_cons.mpr ⟨yo_220, List.forall_mem_cons.mpr ⟨yo_221, List.forall_mem_cons.mpr ⟨yo_222, List.forall_mem_cons.mpr ⟨yo_223, List.forall_mem_cons.mpr ⟨yo_224, List.forall_mem_cons.mpr ⟨yo_225, List.forall_mem_cons.mpr ⟨yo_226, List.forall_mem_cons.mpr ⟨yo_227, List.forall_mem_cons.mpr ⟨yo_228, List.forall_mem_cons.mpr ⟨yo_229, fun _ h => absurd h List.not_mem_nil⟩⟩⟩⟩⟩⟩⟩⟩⟩⟩⟩⟩⟩⟩⟩⟩⟩⟩⟩⟩⟩⟩⟩
theorem yo_c10 : ∀ j ∈ [230, 231, 232, 233, 234, 235, 236, 237, 238, 239, 240, 241, 242, 243, 244, 245, 246, 247, 248, 249, 250, 251, 252], pm_okY Y TW j (ar j) ∧ plainName (Y j).1.cls = true := List.forall_mem_cons.mpr ⟨yo_230, List.forall_mem_cons.mpr ⟨yo_231, List.forall_mem_cons.mpr ⟨yo_232, List.forall_mem_cons.mpr ⟨yo_233, List.forall_mem_cons.mpr ⟨yo_234, List.forall_mem_cons.mpr ⟨yo_235, List.forall_mem_cons.mpr ⟨yo_236, List.forall_mem_cons.mpr ⟨yo_237, List.forall_mem_cons.mpr ⟨yo_238, List.forall_mem_cons.mpr ⟨yo_239, List.forall_mem_cons.mpr ⟨yo_240, List.forall_mem_cons.mpr ⟨yo_241, List.forall_mem_cons.mpr ⟨yo_242, List.forall_mem_cons.mpr ⟨yo_243, List.forall_mem_cons.mpr ⟨yo_244, List.forall_mem_cons.mpr ⟨yo_245, List.forall_mem_cons.mpr ⟨yo_246, List.forall_mem_cons.mpr ⟨yo_247, List.forall_mem_cons.mpr ⟨yo_248, List.forall_mem_cons.mpr ⟨yo_249, List.forall_mem_cons.mpr ⟨yo_250, List.forall_mem_cons.mpr ⟨yo_251, List.forall_mem_cons.mpr ⟨yo_252, fun _ h => absurd h List.not_mem_nil⟩⟩⟩⟩⟩⟩⟩⟩⟩⟩⟩⟩⟩⟩⟩⟩⟩⟩⟩⟩⟩⟩⟩
theorem yo_c11 : ∀ j ∈ [253, 254, 255, 256, 257, 258, 259, 260, 261, 262, 263, 264, 265, 266, 267, 268, 269, 270, 271, 272, 273, 274, 275], pm_okY Y TW j (ar j) ∧ plainName (Y j).1.cls = true := List.forall_mem_cons.mpr ⟨yo_253, List.forall_mem_cons.mpr ⟨yo_254, List.forall_mem_cons.mpr ⟨yo_255, List.forall_mem_cons.mpr ⟨yo_256, List.forall_mem_cons.mpr ⟨yo_257, List.forall_mem_cons.mpr ⟨yo_258, List.forall_mem_cons.mpr ⟨yo_259, List.forall_mem_cons.mpr ⟨yo_260, List.forall_mem_cons.mpr ⟨yo_261, List.forall_mem_cons.mpr ⟨yo_262, List.forall_mem_cons.mpr ⟨yo_263, List.forall_mem_cons.mpr ⟨yo_264, List.forall_mem_cons.mpr ⟨yo_265, List.forall_mem_cons.mpr ⟨yo_266, List.forall_mem_cons.mpr ⟨yo_267, List.forall_mem_cons.mpr ⟨yo_268, List.forall_mem_cons.mpr ⟨yo_269, List.forall_mem_cons.mpr ⟨yo_270, List.forall_mem_cons.mpr ⟨yo_271, List.forall_mem_cons.mpr ⟨yo_272, List.forall_mem_cons.mpr ⟨yo_273, List.forall_mem_cons.mpr ⟨yo_274, List.forall_mem_cons.mpr ⟨yo_275, fun _ h => absurd h List.not_mem_nil⟩⟩⟩⟩⟩⟩⟩⟩⟩⟩⟩⟩⟩⟩⟩⟩⟩⟩⟩⟩⟩⟩⟩
def yjs : List Nat := [0, 1, 2, 3, 4, 5, 6, 7, 8, 9, 10, 11, 12, 13, 14, 15, 16, 17, 18, 19, 20, 21, 22] ++ ([23, 24, 25, 26, 27, 28, 29, 30, 31, 32, 33, 34, 35, 36, 37, 38, 39, 40, 41, 42, 43, 44, 45] ++ ([46, 47, 48, 49, 50, 51, 52, 53, 54, 55, 56, 57, 58, 59, 60, 61, 62, 63, 64, 65, 66, 67, 68] ++ ([69, 70, 71, 72, 73, 74, 75, 76, 77, 78, 79, 80, 81, 82, 83, 84, 85, 86, 87, 88, 89, 90, 91] ++ ([92, 93, 94, 95, 96, 97, 98, 99, 100, 101, 102, 103, 104, 105, 106, 107, 108, 109, 110, 111, 112, 113, 114] ++ ([115, 116, 117, 118, 119, 120, 121, 122, 123, 124, 125, 126, 127, 128, 129, 130, 131, 132, 133, 134, 135, 136, 137] ++ ([138, 139, 140, 141, 142, 143, 144, 145, 146, 147, 148, 149, 150, 151, 152, 153, 154, 155, 156, 157, 158, 159, 160] ++ ([161, 162, 163, 164, 165, 166, 167, 168, 169, 170, 171, 172, 173, 174, 175, 176, 177, 178, 179, 180, 181, 182, 183] ++ ([184, 185, 186, 187, 188, 189, 190, 191, 192, 193, 194, 195, 196, 197, 198, 199, 200, 201, 202, 203, 204, 205, 206] ++ ([207, 208, 209, 210, 211, 212, 213, 214, 215, 216, 217, 218, 219, 220, 221, 222, 223, 224, 225, 226, 227, 228, 229] ++ ([230, 231, 232, 233, 234, 235, 236, 237, 238, 239, 240, 241, 242, 243, 244, 245, 246, 247, 248, 249, 250, 251, 252] ++ ([253, 254, 255, 256, 257, 258, 259, 260, 261, 262, 263, 264, 265, 266, 267, 268, 269, 270, 271, 272, 273, 274, 275])))))))))))
theorem yo_js : ∀ j ∈ yjs, pm_okY Y TW j (ar j) ∧ plainName (Y j).1.cls = true := List.forall_mem_append.mpr ⟨yo_c0, List.forall_mem_append.mpr ⟨yo_c1, List.forall_mem_append.mpr ⟨yo_c2, List.forall_mem_append.mpr ⟨yo_c3, List.forall_mem_append.mpr ⟨yo_c4, List.forall_mem_append.mpr ⟨yo_c5, List.forall_mem_append.mpr ⟨yo_c6, List.forall_mem_append.mpr ⟨yo_c7, List.forall_mem_append.mpr ⟨yo_c8, List.forall_mem_append.mpr ⟨yo_c9, List.forall_mem_append.mpr ⟨yo_c10, yo_c11⟩⟩⟩⟩⟩⟩⟩⟩⟩⟩⟩
theorem yjs_all : ∀ j, j < 276 → j ∈ yjs := by decide +kernel
def okn (j n : Nat) : Bool := decide (ar j = n) && decide (j < 276)
theorem okn_ok {j n : Nat} (h : okn j n = true) : pm_okY Y TW j n := by
  simp only [okn, Bool.and_eq_true, decide_eq_true_eq] at h
  have := (yo_js j (yjs_all j h.2)).1
  rw [h.1] at this
  exact this
theorem plain_ok {j : Nat} (h : j < 276) : plainName (Y j).1.cls = true := (yo_js j (yjs_all j h)).2
/-- links of nest mates' constructors -/
def NWn : List Cond := [.methodLinkNest RX11 9 yX9_init RX11, .methodLinkNest RX11 18 yX4_init RX11, .methodLinkNest RX4 11 yX6_init RX11, .methodLinkNest RX11 33 yX3_init RX11, .methodLinkNest RX3 29 yX5_init RX11, .methodLinkNest RX11 43 yX8_init RX11, .methodLinkNest RX11 50 yX0_init RX11, .methodLinkNest RX11 63 yX2_init RX11, .methodLinkNest RX11 73 yX10_init RX11, .methodLinkNest RX11 80 yX7_init RX11, .methodLinkNest RX11 87 yX1_init RX11, .methodLinkNest RX1 11 yX8_init RX11]
def x_names : List String := ["java/lang/RuntimeException", "java/lang/Exception"]
def x_I : String := "java/lang/IllegalArgumentException"
def x_N : String := "java/util/NoSuchElementException"
def x_tab : List (String × Nat × Nat × Nat × ByteArray) := [(x_I, 115, 119, 7, prog_20_method_2_code), (x_N, 192, 196, 13, prog_33_method_4_code)]
/-- class, entry of the class, of its constructor, of the superclass's constructor, the constructor's bytes -/
def x_ws (q : String × Nat × Nat × Nat × ByteArray) : List Cond := Cond.classLink RX11 q.2.1 q.1 :: Cond.initialized q.1 :: xn_at RX11 q.2.2.1 q.1 q.2.2.2.1 q.2.2.2.2 x_names
/-- the words of the ground -/
def GW : List Cond := NWn ++ x_tab.flatMap x_ws
def gw (w : Cond) : Bool := goodWord w || (match w with
  | .castable _ _ => true
  | .declares _ => true
  | .methodLinkNest _ _ _ _ => true
  | _ => false)
theorem GW_ot : GW.all (fun w => w.onTables && gw w) = true := by decide +kernel
theorem gw_warm {w : Cond} (h : gw w = true) {s U : State} (hW : s.WarmedH U.vm) (hZ : va_Nw w s) : va_Nw w U := by
  unfold gw at h
  cases hg : goodWord w with
  | true => exact word_at hW (good_of_word hg) hZ
  | false =>
    rw [hg, Bool.false_or] at h
    split at h
    · exact va_Nw.warmC hW hZ
    · exact va_Nw.warmD hW hZ
    · exact va_Nw.warmM hW hZ
    · cases h
theorem GW_1 : NWn.all (fun w => decide (w ∈ lw_tbl)) = true := by decide +kernel
theorem GW_2 : ((x_ws (x_I, 115, 119, 7, prog_20_method_2_code)).take 30).all (fun w => decide (w ∈ lw_tbl)) = true := by decide +kernel
theorem GW_3 : ((x_ws (x_I, 115, 119, 7, prog_20_method_2_code)).drop 30).all (fun w => decide (w ∈ lw_tbl)) = true := by decide +kernel
theorem GW_4 : ((x_ws (x_N, 192, 196, 13, prog_33_method_4_code)).take 30).all (fun w => decide (w ∈ lw_tbl)) = true := by decide +kernel
theorem GW_5 : ((x_ws (x_N, 192, 196, 13, prog_33_method_4_code)).drop 30).all (fun w => decide (w ∈ lw_tbl)) = true := by decide +kernel
theorem all_td {l : List Cond} (h1 : (l.take 30).all (fun w => decide (w ∈ lw_tbl)) = true) (h2 : (l.drop 30).all (fun w => decide (w ∈ lw_tbl)) = true) : ∀ w ∈ l, w ∈ lw_tbl := by
  intro w hw
  rw [← List.take_append_drop 30 l] at hw
  rcases List.mem_append.mp hw with h | h
  · simpa using List.all_eq_true.mp h1 w h
  · simpa using List.all_eq_true.mp h2 w h
theorem GW_in : ∀ w ∈ GW, w ∈ lw_tbl := by
  intro w hw
  rcases List.mem_append.mp hw with h | h
  · simpa using List.all_eq_true.mp GW_1 w h
  · obtain ⟨q, hq, hw⟩ := List.mem_flatMap.mp h
    simp only [x_tab, List.mem_cons, List.not_mem_nil, or_false] at hq
    rcases hq with rfl | rfl
    · exact all_td GW_2 GW_3 w hw
    · exact all_td GW_4 GW_5 w hw

/-- text constants: whose, which entry, what, which text -/
def txt : List (String × Nat × String × Nat) := [(RX11, 117, "the tape has not so many bytes", 0), (RX9, 44, ";()+-*/<=", 1), (RX4, 29, "table", 2), (RX4, 73, "wall", 3), (RX4, 78, "figure", 4), (RX4, 83, "seat", 5), (RX4, 88, "light", 6), (RX4, 93, "dull", 7), (RX4, 98, "goes", 8), (RX6, 89, "not", 9), (RX6, 99, "sore", 10), (RX6, 101, "light", 6), (RX6, 103, "with", 11), (RX6, 105, "hour", 12), (RX6, 107, "step", 13), (RX6, 109, "held", 14), (RX6, 125, "or", 15), (RX6, 127, "and", 16), (RX4, 107, "hurts", 17), (RX11, 194, "no such count", 18), (RX11, 375, "no such figure", 19), (RX11, 222, "no such thing of a figure", 20), (RX11, 377, "no such cell", 21), (RX11, 240, "no such thing of a cell", 22), (RX11, 379, "no such thing to ask", 23), (RX11, 381, "not so many", 24), (RX11, 343, "both are one", 25)]
def tx_len : List Nat := [30, 9, 5, 4, 6, 4, 5, 4, 4, 3, 4, 4, 4, 4, 4, 2, 3, 5, 13, 14, 25, 12, 23, 20, 11, 12]
def tx_byt : List (List Int32) := [[116, 104, 101, 32, 116, 97, 112, 101, 32, 104, 97, 115, 32, 110, 111, 116, 32, 115, 111, 32, 109, 97, 110, 121, 32, 98, 121, 116, 101, 115], [59, 40, 41, 43, 45, 42, 47, 60, 61], [116, 97, 98, 108, 101], [119, 97, 108, 108], [102, 105, 103, 117, 114, 101], [115, 101, 97, 116], [108, 105, 103, 104, 116], [100, 117, 108, 108], [103, 111, 101, 115], [110, 111, 116], [115, 111, 114, 101], [119, 105, 116, 104], [104, 111, 117, 114], [115, 116, 101, 112], [104, 101, 108, 100], [111, 114], [97, 110, 100], [104, 117, 114, 116, 115], [110, 111, 32, 115, 117, 99, 104, 32, 99, 111, 117, 110, 116], [110, 111, 32, 115, 117, 99, 104, 32, 102, 105, 103, 117, 114, 101], [110, 111, 32, 115, 117, 99, 104, 32, 116, 104, 105, 110, 103, 32, 111, 102, 32, 97, 32, 102, 105, 103, 117, 114, 101], [110, 111, 32, 115, 117, 99, 104, 32, 99, 101, 108, 108], [110, 111, 32, 115, 117, 99, 104, 32, 116, 104, 105, 110, 103, 32, 111, 102, 32, 97, 32, 99, 101, 108, 108], [110, 111, 32, 115, 117, 99, 104, 32, 116, 104, 105, 110, 103, 32, 116, 111, 32, 97, 115, 107], [110, 111, 116, 32, 115, 111, 32, 109, 97, 110, 121], [98, 111, 116, 104, 32, 97, 114, 101, 32, 111, 110, 101]]
/-- the ground: words, two statics of Throwable, the texts -/
def GG (n0 : Nat) (sa sv : Nat → Nat) (s : State) : Prop := (∀ w ∈ GW, va_Nw w s) ∧ vx_Zq Bundle.tN "UNASSIGNED_STACK" Bundle.steD (fun q => n0 ≤ q) s s.heap ∧ vx_Zq Bundle.tN "SUPPRESSED_SENTINEL" Bundle.listD (fun q => n0 ≤ q) s s.heap ∧ (∀ q ∈ txt, vk_R q.1 q.2.1 q.2.2.1 (sa q.2.2.2) s) ∧ (∀ k, 26 ≤ k → sa k = sa 0) ∧ vk_S 26 tx_len tx_byt sa sv (fun q => n0 ≤ q) s s.heap
theorem GG_m (n0 : Nat) (sa sv : Nat → Nat) : pm_Gm n0 (GG n0 sa sv) := by
  rintro u U hW hk ⟨h1, h2, h3, h4, h6, h5⟩
  refine ⟨fun w hw => ?_, ?_, ?_, fun q hq => (h4 q hq).warm hW, h6, ?_⟩
  · have := List.all_eq_true.mp GW_ot w hw
    simp only [Bool.and_eq_true] at this
    exact gw_warm this.2 hW (h1 w hw)
  · exact (vx_Zq.moved hW.alike h2).kept hk
  · exact (vx_Zq.moved hW.alike h3).kept hk
  · exact (vk_S.moved hW.alike h5).kept hk
theorem GW_use {n0 : Nat} {sa sv : Nat → Nat} {s : State} (h : GG n0 sa sv s) {w : Cond} (hw : w ∈ GW) (args : Array Value) : w.before args s = true := by
  have := List.all_eq_true.mp GW_ot w hw
  simp only [Bool.and_eq_true] at this
  exact va_Nw.use this.1 (h.1 w hw)
end
