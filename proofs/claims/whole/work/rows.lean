section
-- ===== PART A: goes FIRST, ahead of the names: the tables' words, and 'selects' of the private methods out of them =====
/-- a private method of a class that the tables say can be made, by its rows of tables_1 -/
def lw_okq (q : MethodName × Nat) : Prop := (q.1.cls ≠ "java/lang/invoke/MethodHandle" ∧ q.1.cls ≠ "java/lang/invoke/VarHandle") ∧ Cond.instantiable q.1.cls q.2 ∈ tables_1 ∧ Cond.privateMethod q.1 ∈ tables_1 ∧ Cond.instanceMethod q.1 ∈ tables_1
theorem lw_p0 : lw_okq (⟨"TownTable", "refuseAct", "()I"⟩, 20) := ⟨⟨by decide +kernel, by decide +kernel⟩, List.mem_of_getElem? (i := 30) (by decide +kernel), List.mem_of_getElem? (i := 460) (by decide +kernel), List.mem_of_getElem? (i := 461) (by decide +kernel)⟩
theorem lw_p1 : lw_okq (⟨"TownTable$Mover", "hurt", "(LTownTable$Plan;LTownTable$State;I)V"⟩, 1) := ⟨⟨by decide +kernel, by decide +kernel⟩, List.mem_of_getElem? (i := 290) (by decide +kernel), List.mem_of_getElem? (i := 491) (by decide +kernel), List.mem_of_getElem? (i := 492) (by decide +kernel)⟩
theorem lw_p2 : lw_okq (⟨"TownTable$Mover", "setValues", "(LTownTable$Plan;LTownTable$State;I)V"⟩, 1) := ⟨⟨by decide +kernel, by decide +kernel⟩, List.mem_of_getElem? (i := 290) (by decide +kernel), List.mem_of_getElem? (i := 499) (by decide +kernel), List.mem_of_getElem? (i := 500) (by decide +kernel)⟩
theorem lw_p3 : lw_okq (⟨"TownTable$Mover", "wantsToGo", "(LTownTable$Plan;LTownTable$State;I)Z"⟩, 1) := ⟨⟨by decide +kernel, by decide +kernel⟩, List.mem_of_getElem? (i := 290) (by decide +kernel), List.mem_of_getElem? (i := 523) (by decide +kernel), List.mem_of_getElem? (i := 524) (by decide +kernel)⟩
theorem lw_p4 : lw_okq (⟨"TownTable$Mover", "go", "(LTownTable$Plan;LTownTable$State;I)V"⟩, 1) := ⟨⟨by decide +kernel, by decide +kernel⟩, List.mem_of_getElem? (i := 290) (by decide +kernel), List.mem_of_getElem? (i := 527) (by decide +kernel), List.mem_of_getElem? (i := 528) (by decide +kernel)⟩
theorem lw_p5 : lw_okq (⟨"TownTable", "foresee", "(I)V"⟩, 20) := ⟨⟨by decide +kernel, by decide +kernel⟩, List.mem_of_getElem? (i := 30) (by decide +kernel), List.mem_of_getElem? (i := 560) (by decide +kernel), List.mem_of_getElem? (i := 561) (by decide +kernel)⟩
theorem lw_p6 : lw_okq (⟨"TownTable", "passFuture", "()V"⟩, 20) := ⟨⟨by decide +kernel, by decide +kernel⟩, List.mem_of_getElem? (i := 30) (by decide +kernel), List.mem_of_getElem? (i := 568) (by decide +kernel), List.mem_of_getElem? (i := 569) (by decide +kernel)⟩
theorem lw_p7 : lw_okq (⟨"java/lang/Throwable", "fillInStackTrace", "(I)Ljava/lang/Throwable;"⟩, 6) := ⟨⟨by decide +kernel, by decide +kernel⟩, List.mem_of_getElem? (i := 648) (by decide +kernel), List.mem_of_getElem? (i := 646) (by decide +kernel), List.mem_of_getElem? (i := 647) (by decide +kernel)⟩
theorem lw_p8 : lw_okq (⟨"TownTable$Tape", "readNumber", "()V"⟩, 7) := ⟨⟨by decide +kernel, by decide +kernel⟩, List.mem_of_getElem? (i := 38) (by decide +kernel), List.mem_of_getElem? (i := 697) (by decide +kernel), List.mem_of_getElem? (i := 698) (by decide +kernel)⟩
theorem lw_p9 : lw_okq (⟨"TownTable$PlanReader", "readTable", "(LTownTable$Tape;LTownTable$Plan;)I"⟩, 2) := ⟨⟨by decide +kernel, by decide +kernel⟩, List.mem_of_getElem? (i := 73) (by decide +kernel), List.mem_of_getElem? (i := 812) (by decide +kernel), List.mem_of_getElem? (i := 813) (by decide +kernel)⟩
theorem lw_p10 : lw_okq (⟨"TownTable$PlanReader", "readLine", "(LTownTable$Tape;LTownTable$Plan;)I"⟩, 2) := ⟨⟨by decide +kernel, by decide +kernel⟩, List.mem_of_getElem? (i := 73) (by decide +kernel), List.mem_of_getElem? (i := 835) (by decide +kernel), List.mem_of_getElem? (i := 836) (by decide +kernel)⟩
theorem lw_p11 : lw_okq (⟨"TownTable$PlanReader", "readFigure", "(LTownTable$Tape;LTownTable$Plan;)I"⟩, 2) := ⟨⟨by decide +kernel, by decide +kernel⟩, List.mem_of_getElem? (i := 73) (by decide +kernel), List.mem_of_getElem? (i := 861) (by decide +kernel), List.mem_of_getElem? (i := 862) (by decide +kernel)⟩
theorem lw_p12 : lw_okq (⟨"TownTable$PlanReader", "readRow", "(LTownTable$Tape;[III)I"⟩, 2) := ⟨⟨by decide +kernel, by decide +kernel⟩, List.mem_of_getElem? (i := 73) (by decide +kernel), List.mem_of_getElem? (i := 865) (by decide +kernel), List.mem_of_getElem? (i := 866) (by decide +kernel)⟩
theorem lw_p13 : lw_okq (⟨"TownTable$PlanReader", "readLight", "(LTownTable$Tape;LTownTable$Plan;)I"⟩, 2) := ⟨⟨by decide +kernel, by decide +kernel⟩, List.mem_of_getElem? (i := 73) (by decide +kernel), List.mem_of_getElem? (i := 874) (by decide +kernel), List.mem_of_getElem? (i := 875) (by decide +kernel)⟩
theorem lw_p14 : lw_okq (⟨"TownTable$RuleReader", "beginPart", "(Z)V"⟩, 6) := ⟨⟨by decide +kernel, by decide +kernel⟩, List.mem_of_getElem? (i := 79) (by decide +kernel), List.mem_of_getElem? (i := 888) (by decide +kernel), List.mem_of_getElem? (i := 889) (by decide +kernel)⟩
theorem lw_p15 : lw_okq (⟨"TownTable$RuleReader", "isEnd", "(LTownTable$Tape;)Z"⟩, 6) := ⟨⟨by decide +kernel, by decide +kernel⟩, List.mem_of_getElem? (i := 79) (by decide +kernel), List.mem_of_getElem? (i := 893) (by decide +kernel), List.mem_of_getElem? (i := 894) (by decide +kernel)⟩
def lw_privs_1 : List (MethodName × Nat) := [(⟨"TownTable", "refuseAct", "()I"⟩, 20), (⟨"TownTable$Mover", "hurt", "(LTownTable$Plan;LTownTable$State;I)V"⟩, 1), (⟨"TownTable$Mover", "setValues", "(LTownTable$Plan;LTownTable$State;I)V"⟩, 1), (⟨"TownTable$Mover", "wantsToGo", "(LTownTable$Plan;LTownTable$State;I)Z"⟩, 1), (⟨"TownTable$Mover", "go", "(LTownTable$Plan;LTownTable$State;I)V"⟩, 1), (⟨"TownTable", "foresee", "(I)V"⟩, 20), (⟨"TownTable", "passFuture", "()V"⟩, 20), (⟨"java/lang/Throwable", "fillInStackTrace", "(I)Ljava/lang/Throwable;"⟩, 6), (⟨"TownTable$Tape", "readNumber", "()V"⟩, 7), (⟨"TownTable$PlanReader", "readTable", "(LTownTable$Tape;LTownTable$Plan;)I"⟩, 2), (⟨"TownTable$PlanReader", "readLine", "(LTownTable$Tape;LTownTable$Plan;)I"⟩, 2), (⟨"TownTable$PlanReader", "readFigure", "(LTownTable$Tape;LTownTable$Plan;)I"⟩, 2), (⟨"TownTable$PlanReader", "readRow", "(LTownTable$Tape;[III)I"⟩, 2), (⟨"TownTable$PlanReader", "readLight", "(LTownTable$Tape;LTownTable$Plan;)I"⟩, 2), (⟨"TownTable$RuleReader", "beginPart", "(Z)V"⟩, 6), (⟨"TownTable$RuleReader", "isEnd", "(LTownTable$Tape;)Z"⟩, 6)]
theorem lw_r1 : ∀ q ∈ lw_privs_1, lw_okq q := List.forall_mem_cons.mpr ⟨lw_p0, List.forall_mem_cons.mpr ⟨lw_p1, List.forall_mem_cons.mpr ⟨lw_p2, List.forall_mem_cons.mpr ⟨lw_p3, List.forall_mem_cons.mpr ⟨lw_p4, List.forall_mem_cons.mpr ⟨lw_p5, List.forall_mem_cons.mpr ⟨lw_p6, List.forall_mem_cons.mpr ⟨lw_p7, List.forall_mem_cons.mpr ⟨lw_p8, List.forall_mem_cons.mpr ⟨lw_p9, List.forall_mem_cons.mpr ⟨lw_p10, List.forall_mem_cons.mpr ⟨lw_p11, List.forall_mem_cons.mpr ⟨lw_p12, List.forall_mem_cons.mpr ⟨lw_p13, List.forall_mem_cons.mpr ⟨lw_p14, List.forall_mem_cons.mpr ⟨lw_p15, fun _ h => absurd h List.not_mem_nil⟩⟩⟩⟩⟩⟩⟩⟩⟩⟩⟩⟩⟩⟩⟩⟩
theorem lw_p16 : lw_okq (⟨"TownTable$RuleReader", "readPart", "(LTownTable$Tape;LTownTable$Rule;Z)I"⟩, 6) := ⟨⟨by decide +kernel, by decide +kernel⟩, List.mem_of_getElem? (i := 79) (by decide +kernel), List.mem_of_getElem? (i := 898) (by decide +kernel), List.mem_of_getElem? (i := 899) (by decide +kernel)⟩
theorem lw_p17 : lw_okq (⟨"TownTable$RuleReader", "push", "(I)V"⟩, 6) := ⟨⟨by decide +kernel, by decide +kernel⟩, List.mem_of_getElem? (i := 79) (by decide +kernel), List.mem_of_getElem? (i := 902) (by decide +kernel), List.mem_of_getElem? (i := 903) (by decide +kernel)⟩
theorem lw_p18 : lw_okq (⟨"TownTable$RuleReader", "readNumber", "(LTownTable$Tape;LTownTable$Rule;)I"⟩, 6) := ⟨⟨by decide +kernel, by decide +kernel⟩, List.mem_of_getElem? (i := 79) (by decide +kernel), List.mem_of_getElem? (i := 906) (by decide +kernel), List.mem_of_getElem? (i := 907) (by decide +kernel)⟩
theorem lw_p19 : lw_okq (⟨"TownTable$RuleReader", "readWord", "(LTownTable$Tape;LTownTable$Rule;Z)I"⟩, 6) := ⟨⟨by decide +kernel, by decide +kernel⟩, List.mem_of_getElem? (i := 79) (by decide +kernel), List.mem_of_getElem? (i := 915) (by decide +kernel), List.mem_of_getElem? (i := 916) (by decide +kernel)⟩
theorem lw_p20 : lw_okq (⟨"TownTable$RuleReader", "readOperator", "(LTownTable$Tape;LTownTable$Rule;)I"⟩, 6) := ⟨⟨by decide +kernel, by decide +kernel⟩, List.mem_of_getElem? (i := 79) (by decide +kernel), List.mem_of_getElem? (i := 930) (by decide +kernel), List.mem_of_getElem? (i := 931) (by decide +kernel)⟩
theorem lw_p21 : lw_okq (⟨"TownTable$RuleReader", "release", "(LTownTable$Rule;I)V"⟩, 6) := ⟨⟨by decide +kernel, by decide +kernel⟩, List.mem_of_getElem? (i := 79) (by decide +kernel), List.mem_of_getElem? (i := 934) (by decide +kernel), List.mem_of_getElem? (i := 935) (by decide +kernel)⟩
theorem lw_p22 : lw_okq (⟨"TownTable", "checkFigure", "(I)V"⟩, 20) := ⟨⟨by decide +kernel, by decide +kernel⟩, List.mem_of_getElem? (i := 30) (by decide +kernel), List.mem_of_getElem? (i := 1014) (by decide +kernel), List.mem_of_getElem? (i := 1015) (by decide +kernel)⟩
theorem lw_p23 : lw_okq (⟨"TownTable", "checkCell", "(I)V"⟩, 20) := ⟨⟨by decide +kernel, by decide +kernel⟩, List.mem_of_getElem? (i := 30) (by decide +kernel), List.mem_of_getElem? (i := 1029) (by decide +kernel), List.mem_of_getElem? (i := 1030) (by decide +kernel)⟩
theorem lw_p24 : lw_okq (⟨"TownTable", "pay", "(I)V"⟩, 20) := ⟨⟨by decide +kernel, by decide +kernel⟩, List.mem_of_getElem? (i := 30) (by decide +kernel), List.mem_of_getElem? (i := 1054) (by decide +kernel), List.mem_of_getElem? (i := 1055) (by decide +kernel)⟩
theorem lw_p25 : lw_okq (⟨"TownTable", "addMeetings", "()V"⟩, 20) := ⟨⟨by decide +kernel, by decide +kernel⟩, List.mem_of_getElem? (i := 30) (by decide +kernel), List.mem_of_getElem? (i := 1156) (by decide +kernel), List.mem_of_getElem? (i := 1157) (by decide +kernel)⟩
theorem lw_p26 : lw_okq (⟨"TownTable", "noneMeets", "(I)Z"⟩, 20) := ⟨⟨by decide +kernel, by decide +kernel⟩, List.mem_of_getElem? (i := 30) (by decide +kernel), List.mem_of_getElem? (i := 1160) (by decide +kernel), List.mem_of_getElem? (i := 1161) (by decide +kernel)⟩
theorem lw_p27 : lw_okq (⟨"TownTable$Seating", "measureAll", "(LTownTable$Plan;LTownTable$State;LTownTable$Ways;)V"⟩, 5) := ⟨⟨by decide +kernel, by decide +kernel⟩, List.mem_of_getElem? (i := 315) (by decide +kernel), List.mem_of_getElem? (i := 1175) (by decide +kernel), List.mem_of_getElem? (i := 1176) (by decide +kernel)⟩
theorem lw_p28 : lw_okq (⟨"TownTable$Seating", "bestFrom", "(LTownTable$Plan;II)I"⟩, 5) := ⟨⟨by decide +kernel, by decide +kernel⟩, List.mem_of_getElem? (i := 315) (by decide +kernel), List.mem_of_getElem? (i := 1181) (by decide +kernel), List.mem_of_getElem? (i := 1182) (by decide +kernel)⟩
theorem lw_p29 : lw_okq (⟨"TownTable$Seating", "worthAt", "(III)I"⟩, 5) := ⟨⟨by decide +kernel, by decide +kernel⟩, List.mem_of_getElem? (i := 315) (by decide +kernel), List.mem_of_getElem? (i := 1185) (by decide +kernel), List.mem_of_getElem? (i := 1186) (by decide +kernel)⟩
theorem lw_p30 : lw_okq (⟨"TownTable$Seating", "choose", "(LTownTable$Plan;)V"⟩, 5) := ⟨⟨by decide +kernel, by decide +kernel⟩, List.mem_of_getElem? (i := 315) (by decide +kernel), List.mem_of_getElem? (i := 1190) (by decide +kernel), List.mem_of_getElem? (i := 1191) (by decide +kernel)⟩
theorem lw_p31 : lw_okq (⟨"TownTable$Guesses", "addPlaces", "(LTownTable$Plan;LTownTable$Mover;)V"⟩, 4) := ⟨⟨by decide +kernel, by decide +kernel⟩, List.mem_of_getElem? (i := 340) (by decide +kernel), List.mem_of_getElem? (i := 1238) (by decide +kernel), List.mem_of_getElem? (i := 1239) (by decide +kernel)⟩
def lw_privs_2 : List (MethodName × Nat) := [(⟨"TownTable$RuleReader", "readPart", "(LTownTable$Tape;LTownTable$Rule;Z)I"⟩, 6), (⟨"TownTable$RuleReader", "push", "(I)V"⟩, 6), (⟨"TownTable$RuleReader", "readNumber", "(LTownTable$Tape;LTownTable$Rule;)I"⟩, 6), (⟨"TownTable$RuleReader", "readWord", "(LTownTable$Tape;LTownTable$Rule;Z)I"⟩, 6), (⟨"TownTable$RuleReader", "readOperator", "(LTownTable$Tape;LTownTable$Rule;)I"⟩, 6), (⟨"TownTable$RuleReader", "release", "(LTownTable$Rule;I)V"⟩, 6), (⟨"TownTable", "checkFigure", "(I)V"⟩, 20), (⟨"TownTable", "checkCell", "(I)V"⟩, 20), (⟨"TownTable", "pay", "(I)V"⟩, 20), (⟨"TownTable", "addMeetings", "()V"⟩, 20), (⟨"TownTable", "noneMeets", "(I)Z"⟩, 20), (⟨"TownTable$Seating", "measureAll", "(LTownTable$Plan;LTownTable$State;LTownTable$Ways;)V"⟩, 5), (⟨"TownTable$Seating", "bestFrom", "(LTownTable$Plan;II)I"⟩, 5), (⟨"TownTable$Seating", "worthAt", "(III)I"⟩, 5), (⟨"TownTable$Seating", "choose", "(LTownTable$Plan;)V"⟩, 5), (⟨"TownTable$Guesses", "addPlaces", "(LTownTable$Plan;LTownTable$Mover;)V"⟩, 4)]
theorem lw_r2 : ∀ q ∈ lw_privs_2, lw_okq q := List.forall_mem_cons.mpr ⟨lw_p16, List.forall_mem_cons.mpr ⟨lw_p17, List.forall_mem_cons.mpr ⟨lw_p18, List.forall_mem_cons.mpr ⟨lw_p19, List.forall_mem_cons.mpr ⟨lw_p20, List.forall_mem_cons.mpr ⟨lw_p21, List.forall_mem_cons.mpr ⟨lw_p22, List.forall_mem_cons.mpr ⟨lw_p23, List.forall_mem_cons.mpr ⟨lw_p24, List.forall_mem_cons.mpr ⟨lw_p25, List.forall_mem_cons.mpr ⟨lw_p26, List.forall_mem_cons.mpr ⟨lw_p27, List.forall_mem_cons.mpr ⟨lw_p28, List.forall_mem_cons.mpr ⟨lw_p29, List.forall_mem_cons.mpr ⟨lw_p30, List.forall_mem_cons.mpr ⟨lw_p31, fun _ h => absurd h List.not_mem_nil⟩⟩⟩⟩⟩⟩⟩⟩⟩⟩⟩⟩⟩⟩⟩⟩
theorem lw_p32 : lw_okq (⟨"TownTable", "play", "(III)V"⟩, 20) := ⟨⟨by decide +kernel, by decide +kernel⟩, List.mem_of_getElem? (i := 30) (by decide +kernel), List.mem_of_getElem? (i := 1265) (by decide +kernel), List.mem_of_getElem? (i := 1266) (by decide +kernel)⟩
theorem lw_p33 : lw_okq (⟨"TownTable", "rests", "(I)Z"⟩, 20) := ⟨⟨by decide +kernel, by decide +kernel⟩, List.mem_of_getElem? (i := 30) (by decide +kernel), List.mem_of_getElem? (i := 1269) (by decide +kernel), List.mem_of_getElem? (i := 1270) (by decide +kernel)⟩
theorem lw_p34 : lw_okq (⟨"TownTable", "drawFate", "()V"⟩, 20) := ⟨⟨by decide +kernel, by decide +kernel⟩, List.mem_of_getElem? (i := 30) (by decide +kernel), List.mem_of_getElem? (i := 1280) (by decide +kernel), List.mem_of_getElem? (i := 1281) (by decide +kernel)⟩
theorem lw_p35 : lw_okq (⟨"TownTable", "draw", "(I)I"⟩, 20) := ⟨⟨by decide +kernel, by decide +kernel⟩, List.mem_of_getElem? (i := 30) (by decide +kernel), List.mem_of_getElem? (i := 1284) (by decide +kernel), List.mem_of_getElem? (i := 1285) (by decide +kernel)⟩
theorem lw_p36 : lw_okq (⟨"TownTable", "busiest", "(I)I"⟩, 20) := ⟨⟨by decide +kernel, by decide +kernel⟩, List.mem_of_getElem? (i := 30) (by decide +kernel), List.mem_of_getElem? (i := 1300) (by decide +kernel), List.mem_of_getElem? (i := 1301) (by decide +kernel)⟩
theorem lw_p37 : lw_okq (⟨"TownTable", "sorest", "(I)I"⟩, 20) := ⟨⟨by decide +kernel, by decide +kernel⟩, List.mem_of_getElem? (i := 30) (by decide +kernel), List.mem_of_getElem? (i := 1304) (by decide +kernel), List.mem_of_getElem? (i := 1305) (by decide +kernel)⟩
theorem lw_p38 : lw_okq (⟨"TownTable", "alone", "(I)I"⟩, 20) := ⟨⟨by decide +kernel, by decide +kernel⟩, List.mem_of_getElem? (i := 30) (by decide +kernel), List.mem_of_getElem? (i := 1308) (by decide +kernel), List.mem_of_getElem? (i := 1309) (by decide +kernel)⟩
theorem lw_p39 : lw_okq (⟨"TownTable", "stuck", "(I)I"⟩, 20) := ⟨⟨by decide +kernel, by decide +kernel⟩, List.mem_of_getElem? (i := 30) (by decide +kernel), List.mem_of_getElem? (i := 1317) (by decide +kernel), List.mem_of_getElem? (i := 1318) (by decide +kernel)⟩
theorem lw_p40 : lw_okq (⟨"TownTableModel", "lays", "(I)V"⟩, 71) := ⟨⟨by decide +kernel, by decide +kernel⟩, List.mem_of_getElem? (i := 1343) (by decide +kernel), List.mem_of_getElem? (i := 1572) (by decide +kernel), List.mem_of_getElem? (i := 1573) (by decide +kernel)⟩
theorem lw_p41 : lw_okq (⟨"TownTableModel", "right", "(ZI)Z"⟩, 71) := ⟨⟨by decide +kernel, by decide +kernel⟩, List.mem_of_getElem? (i := 1343) (by decide +kernel), List.mem_of_getElem? (i := 1580) (by decide +kernel), List.mem_of_getElem? (i := 1581) (by decide +kernel)⟩
theorem lw_p42 : lw_okq (⟨"TownTableModel", "goes", "()V"⟩, 71) := ⟨⟨by decide +kernel, by decide +kernel⟩, List.mem_of_getElem? (i := 1343) (by decide +kernel), List.mem_of_getElem? (i := 1584) (by decide +kernel), List.mem_of_getElem? (i := 1585) (by decide +kernel)⟩
theorem lw_p43 : lw_okq (⟨"TownTableModel", "byteAt", "(I)I"⟩, 71) := ⟨⟨by decide +kernel, by decide +kernel⟩, List.mem_of_getElem? (i := 1343) (by decide +kernel), List.mem_of_getElem? (i := 1588) (by decide +kernel), List.mem_of_getElem? (i := 1589) (by decide +kernel)⟩
theorem lw_p44 : lw_okq (⟨"TownTableModel", "knownWord", "()I"⟩, 71) := ⟨⟨by decide +kernel, by decide +kernel⟩, List.mem_of_getElem? (i := 1343) (by decide +kernel), List.mem_of_getElem? (i := 1598) (by decide +kernel), List.mem_of_getElem? (i := 1599) (by decide +kernel)⟩
theorem lw_p45 : lw_okq (⟨"TownTableModel", "number", "(II)I"⟩, 71) := ⟨⟨by decide +kernel, by decide +kernel⟩, List.mem_of_getElem? (i := 1343) (by decide +kernel), List.mem_of_getElem? (i := 1609) (by decide +kernel), List.mem_of_getElem? (i := 1610) (by decide +kernel)⟩
theorem lw_p46 : lw_okq (⟨"TownTableModel", "isGood", "()Z"⟩, 71) := ⟨⟨by decide +kernel, by decide +kernel⟩, List.mem_of_getElem? (i := 1343) (by decide +kernel), List.mem_of_getElem? (i := 1613) (by decide +kernel), List.mem_of_getElem? (i := 1614) (by decide +kernel)⟩
theorem lw_p47 : lw_okq (⟨"TownTableModel", "wrong", "(I)V"⟩, 71) := ⟨⟨by decide +kernel, by decide +kernel⟩, List.mem_of_getElem? (i := 1343) (by decide +kernel), List.mem_of_getElem? (i := 1617) (by decide +kernel), List.mem_of_getElem? (i := 1618) (by decide +kernel)⟩
def lw_privs_3 : List (MethodName × Nat) := [(⟨"TownTable", "play", "(III)V"⟩, 20), (⟨"TownTable", "rests", "(I)Z"⟩, 20), (⟨"TownTable", "drawFate", "()V"⟩, 20), (⟨"TownTable", "draw", "(I)I"⟩, 20), (⟨"TownTable", "busiest", "(I)I"⟩, 20), (⟨"TownTable", "sorest", "(I)I"⟩, 20), (⟨"TownTable", "alone", "(I)I"⟩, 20), (⟨"TownTable", "stuck", "(I)I"⟩, 20), (⟨"TownTableModel", "lays", "(I)V"⟩, 71), (⟨"TownTableModel", "right", "(ZI)Z"⟩, 71), (⟨"TownTableModel", "goes", "()V"⟩, 71), (⟨"TownTableModel", "byteAt", "(I)I"⟩, 71), (⟨"TownTableModel", "knownWord", "()I"⟩, 71), (⟨"TownTableModel", "number", "(II)I"⟩, 71), (⟨"TownTableModel", "isGood", "()Z"⟩, 71), (⟨"TownTableModel", "wrong", "(I)V"⟩, 71)]
theorem lw_r3 : ∀ q ∈ lw_privs_3, lw_okq q := List.forall_mem_cons.mpr ⟨lw_p32, List.forall_mem_cons.mpr ⟨lw_p33, List.forall_mem_cons.mpr ⟨lw_p34, List.forall_mem_cons.mpr ⟨lw_p35, List.forall_mem_cons.mpr ⟨lw_p36, List.forall_mem_cons.mpr ⟨lw_p37, List.forall_mem_cons.mpr ⟨lw_p38, List.forall_mem_cons.mpr ⟨lw_p39, List.forall_mem_cons.mpr ⟨lw_p40, List.forall_mem_cons.mpr ⟨lw_p41, List.forall_mem_cons.mpr ⟨lw_p42, List.forall_mem_cons.mpr ⟨lw_p43, List.forall_mem_cons.mpr ⟨lw_p44, List.forall_mem_cons.mpr ⟨lw_p45, List.forall_mem_cons.mpr ⟨lw_p46, List.forall_mem_cons.mpr ⟨lw_p47, fun _ h => absurd h List.not_mem_nil⟩⟩⟩⟩⟩⟩⟩⟩⟩⟩⟩⟩⟩⟩⟩⟩
theorem lw_p48 : lw_okq (⟨"TownTableModel", "isSign", "(I)Z"⟩, 71) := ⟨⟨by decide +kernel, by decide +kernel⟩, List.mem_of_getElem? (i := 1343) (by decide +kernel), List.mem_of_getElem? (i := 1621) (by decide +kernel), List.mem_of_getElem? (i := 1622) (by decide +kernel)⟩
theorem lw_p49 : lw_okq (⟨"TownTableModel", "need", "(Z)V"⟩, 71) := ⟨⟨by decide +kernel, by decide +kernel⟩, List.mem_of_getElem? (i := 1343) (by decide +kernel), List.mem_of_getElem? (i := 1625) (by decide +kernel), List.mem_of_getElem? (i := 1626) (by decide +kernel)⟩
theorem lw_p50 : lw_okq (⟨"TownTableModel", "line", "()V"⟩, 71) := ⟨⟨by decide +kernel, by decide +kernel⟩, List.mem_of_getElem? (i := 1343) (by decide +kernel), List.mem_of_getElem? (i := 1629) (by decide +kernel), List.mem_of_getElem? (i := 1630) (by decide +kernel)⟩
theorem lw_p51 : lw_okq (⟨"TownTableModel", "begins", "(ZZ)Z"⟩, 71) := ⟨⟨by decide +kernel, by decide +kernel⟩, List.mem_of_getElem? (i := 1343) (by decide +kernel), List.mem_of_getElem? (i := 1633) (by decide +kernel), List.mem_of_getElem? (i := 1634) (by decide +kernel)⟩
theorem lw_p52 : lw_okq (⟨"TownTableModel", "readsWall", "()V"⟩, 71) := ⟨⟨by decide +kernel, by decide +kernel⟩, List.mem_of_getElem? (i := 1343) (by decide +kernel), List.mem_of_getElem? (i := 1637) (by decide +kernel), List.mem_of_getElem? (i := 1638) (by decide +kernel)⟩
theorem lw_p53 : lw_okq (⟨"TownTableModel", "cellHere", "()I"⟩, 71) := ⟨⟨by decide +kernel, by decide +kernel⟩, List.mem_of_getElem? (i := 1343) (by decide +kernel), List.mem_of_getElem? (i := 1641) (by decide +kernel), List.mem_of_getElem? (i := 1642) (by decide +kernel)⟩
theorem lw_p54 : lw_okq (⟨"TownTableModel", "readsFigure", "()V"⟩, 71) := ⟨⟨by decide +kernel, by decide +kernel⟩, List.mem_of_getElem? (i := 1343) (by decide +kernel), List.mem_of_getElem? (i := 1645) (by decide +kernel), List.mem_of_getElem? (i := 1646) (by decide +kernel)⟩
theorem lw_p55 : lw_okq (⟨"TownTableModel", "readsSeat", "()V"⟩, 71) := ⟨⟨by decide +kernel, by decide +kernel⟩, List.mem_of_getElem? (i := 1343) (by decide +kernel), List.mem_of_getElem? (i := 1649) (by decide +kernel), List.mem_of_getElem? (i := 1650) (by decide +kernel)⟩
theorem lw_p56 : lw_okq (⟨"TownTableModel", "readsLight", "()V"⟩, 71) := ⟨⟨by decide +kernel, by decide +kernel⟩, List.mem_of_getElem? (i := 1343) (by decide +kernel), List.mem_of_getElem? (i := 1653) (by decide +kernel), List.mem_of_getElem? (i := 1654) (by decide +kernel)⟩
theorem lw_p57 : lw_okq (⟨"TownTableModel", "expression", "(II)V"⟩, 71) := ⟨⟨by decide +kernel, by decide +kernel⟩, List.mem_of_getElem? (i := 1343) (by decide +kernel), List.mem_of_getElem? (i := 1657) (by decide +kernel), List.mem_of_getElem? (i := 1658) (by decide +kernel)⟩
theorem lw_p58 : lw_okq (⟨"TownTableModel", "deeper", "()V"⟩, 71) := ⟨⟨by decide +kernel, by decide +kernel⟩, List.mem_of_getElem? (i := 1343) (by decide +kernel), List.mem_of_getElem? (i := 1661) (by decide +kernel), List.mem_of_getElem? (i := 1662) (by decide +kernel)⟩
theorem lw_p59 : lw_okq (⟨"TownTableModel", "operand", "(Z)V"⟩, 71) := ⟨⟨by decide +kernel, by decide +kernel⟩, List.mem_of_getElem? (i := 1343) (by decide +kernel), List.mem_of_getElem? (i := 1665) (by decide +kernel), List.mem_of_getElem? (i := 1666) (by decide +kernel)⟩
theorem lw_p60 : lw_okq (⟨"TownTableModel", "waitsFor", "(I)V"⟩, 71) := ⟨⟨by decide +kernel, by decide +kernel⟩, List.mem_of_getElem? (i := 1343) (by decide +kernel), List.mem_of_getElem? (i := 1669) (by decide +kernel), List.mem_of_getElem? (i := 1670) (by decide +kernel)⟩
theorem lw_p61 : lw_okq (⟨"TownTableModel", "part", "()V"⟩, 71) := ⟨⟨by decide +kernel, by decide +kernel⟩, List.mem_of_getElem? (i := 1343) (by decide +kernel), List.mem_of_getElem? (i := 1673) (by decide +kernel), List.mem_of_getElem? (i := 1674) (by decide +kernel)⟩
theorem lw_p62 : lw_okq (⟨"TownTableModel", "puts", "(I)V"⟩, 71) := ⟨⟨by decide +kernel, by decide +kernel⟩, List.mem_of_getElem? (i := 1343) (by decide +kernel), List.mem_of_getElem? (i := 1677) (by decide +kernel), List.mem_of_getElem? (i := 1678) (by decide +kernel)⟩
theorem lw_p63 : lw_okq (⟨"TownTableModel", "drops", "(I)V"⟩, 71) := ⟨⟨by decide +kernel, by decide +kernel⟩, List.mem_of_getElem? (i := 1343) (by decide +kernel), List.mem_of_getElem? (i := 1681) (by decide +kernel), List.mem_of_getElem? (i := 1682) (by decide +kernel)⟩
def lw_privs_4 : List (MethodName × Nat) := [(⟨"TownTableModel", "isSign", "(I)Z"⟩, 71), (⟨"TownTableModel", "need", "(Z)V"⟩, 71), (⟨"TownTableModel", "line", "()V"⟩, 71), (⟨"TownTableModel", "begins", "(ZZ)Z"⟩, 71), (⟨"TownTableModel", "readsWall", "()V"⟩, 71), (⟨"TownTableModel", "cellHere", "()I"⟩, 71), (⟨"TownTableModel", "readsFigure", "()V"⟩, 71), (⟨"TownTableModel", "readsSeat", "()V"⟩, 71), (⟨"TownTableModel", "readsLight", "()V"⟩, 71), (⟨"TownTableModel", "expression", "(II)V"⟩, 71), (⟨"TownTableModel", "deeper", "()V"⟩, 71), (⟨"TownTableModel", "operand", "(Z)V"⟩, 71), (⟨"TownTableModel", "waitsFor", "(I)V"⟩, 71), (⟨"TownTableModel", "part", "()V"⟩, 71), (⟨"TownTableModel", "puts", "(I)V"⟩, 71), (⟨"TownTableModel", "drops", "(I)V"⟩, 71)]
theorem lw_r4 : ∀ q ∈ lw_privs_4, lw_okq q := List.forall_mem_cons.mpr ⟨lw_p48, List.forall_mem_cons.mpr ⟨lw_p49, List.forall_mem_cons.mpr ⟨lw_p50, List.forall_mem_cons.mpr ⟨lw_p51, List.forall_mem_cons.mpr ⟨lw_p52, List.forall_mem_cons.mpr ⟨lw_p53, List.forall_mem_cons.mpr ⟨lw_p54, List.forall_mem_cons.mpr ⟨lw_p55, List.forall_mem_cons.mpr ⟨lw_p56, List.forall_mem_cons.mpr ⟨lw_p57, List.forall_mem_cons.mpr ⟨lw_p58, List.forall_mem_cons.mpr ⟨lw_p59, List.forall_mem_cons.mpr ⟨lw_p60, List.forall_mem_cons.mpr ⟨lw_p61, List.forall_mem_cons.mpr ⟨lw_p62, List.forall_mem_cons.mpr ⟨lw_p63, fun _ h => absurd h List.not_mem_nil⟩⟩⟩⟩⟩⟩⟩⟩⟩⟩⟩⟩⟩⟩⟩⟩
theorem lw_p64 : lw_okq (⟨"TownTableModel", "isOpened", "()Z"⟩, 71) := ⟨⟨by decide +kernel, by decide +kernel⟩, List.mem_of_getElem? (i := 1343) (by decide +kernel), List.mem_of_getElem? (i := 1691) (by decide +kernel), List.mem_of_getElem? (i := 1692) (by decide +kernel)⟩
theorem lw_p65 : lw_okq (⟨"TownTableModel", "closes", "()V"⟩, 71) := ⟨⟨by decide +kernel, by decide +kernel⟩, List.mem_of_getElem? (i := 1343) (by decide +kernel), List.mem_of_getElem? (i := 1695) (by decide +kernel), List.mem_of_getElem? (i := 1696) (by decide +kernel)⟩
theorem lw_p66 : lw_okq (⟨"TownTableModel", "copies", "([I[I)V"⟩, 71) := ⟨⟨by decide +kernel, by decide +kernel⟩, List.mem_of_getElem? (i := 1343) (by decide +kernel), List.mem_of_getElem? (i := 1699) (by decide +kernel), List.mem_of_getElem? (i := 1700) (by decide +kernel)⟩
theorem lw_p67 : lw_okq (⟨"TownTableModel", "lightAt", "(I)I"⟩, 71) := ⟨⟨by decide +kernel, by decide +kernel⟩, List.mem_of_getElem? (i := 1343) (by decide +kernel), List.mem_of_getElem? (i := 1718) (by decide +kernel), List.mem_of_getElem? (i := 1719) (by decide +kernel)⟩
theorem lw_p68 : lw_okq (⟨"TownTableModel", "isDull", "(I)Z"⟩, 71) := ⟨⟨by decide +kernel, by decide +kernel⟩, List.mem_of_getElem? (i := 1343) (by decide +kernel), List.mem_of_getElem? (i := 1722) (by decide +kernel), List.mem_of_getElem? (i := 1723) (by decide +kernel)⟩
theorem lw_p69 : lw_okq (⟨"TownTableModel", "sumOf", "(III)I"⟩, 71) := ⟨⟨by decide +kernel, by decide +kernel⟩, List.mem_of_getElem? (i := 1343) (by decide +kernel), List.mem_of_getElem? (i := 1726) (by decide +kernel), List.mem_of_getElem? (i := 1727) (by decide +kernel)⟩
theorem lw_p70 : lw_okq (⟨"TownTableModel", "parts", "()I"⟩, 71) := ⟨⟨by decide +kernel, by decide +kernel⟩, List.mem_of_getElem? (i := 1343) (by decide +kernel), List.mem_of_getElem? (i := 1730) (by decide +kernel), List.mem_of_getElem? (i := 1731) (by decide +kernel)⟩
theorem lw_p71 : lw_okq (⟨"TownTableModel", "laysFar", "(I)V"⟩, 71) := ⟨⟨by decide +kernel, by decide +kernel⟩, List.mem_of_getElem? (i := 1343) (by decide +kernel), List.mem_of_getElem? (i := 1734) (by decide +kernel), List.mem_of_getElem? (i := 1735) (by decide +kernel)⟩
theorem lw_p72 : lw_okq (⟨"TownTableModel", "beside", "(II)I"⟩, 71) := ⟨⟨by decide +kernel, by decide +kernel⟩, List.mem_of_getElem? (i := 1343) (by decide +kernel), List.mem_of_getElem? (i := 1738) (by decide +kernel), List.mem_of_getElem? (i := 1739) (by decide +kernel)⟩
theorem lw_p73 : lw_okq (⟨"TownTableModel", "heldOnes", "()I"⟩, 71) := ⟨⟨by decide +kernel, by decide +kernel⟩, List.mem_of_getElem? (i := 1343) (by decide +kernel), List.mem_of_getElem? (i := 1742) (by decide +kernel), List.mem_of_getElem? (i := 1743) (by decide +kernel)⟩
theorem lw_p74 : lw_okq (⟨"TownTableModel", "isFigure", "(I)Z"⟩, 71) := ⟨⟨by decide +kernel, by decide +kernel⟩, List.mem_of_getElem? (i := 1343) (by decide +kernel), List.mem_of_getElem? (i := 1750) (by decide +kernel), List.mem_of_getElem? (i := 1751) (by decide +kernel)⟩
theorem lw_p75 : lw_okq (⟨"TownTableModel", "isWhat", "(II)Z"⟩, 71) := ⟨⟨by decide +kernel, by decide +kernel⟩, List.mem_of_getElem? (i := 1343) (by decide +kernel), List.mem_of_getElem? (i := 1754) (by decide +kernel), List.mem_of_getElem? (i := 1755) (by decide +kernel)⟩
theorem lw_p76 : lw_okq (⟨"TownTableModel", "stepOf", "(II)I"⟩, 71) := ⟨⟨by decide +kernel, by decide +kernel⟩, List.mem_of_getElem? (i := 1343) (by decide +kernel), List.mem_of_getElem? (i := 1758) (by decide +kernel), List.mem_of_getElem? (i := 1759) (by decide +kernel)⟩
theorem lw_p77 : lw_okq (⟨"TownTableModel", "withIt", "(II)I"⟩, 71) := ⟨⟨by decide +kernel, by decide +kernel⟩, List.mem_of_getElem? (i := 1343) (by decide +kernel), List.mem_of_getElem? (i := 1762) (by decide +kernel), List.mem_of_getElem? (i := 1763) (by decide +kernel)⟩
theorem lw_p78 : lw_okq (⟨"TownTableModel", "atCell", "(II)I"⟩, 71) := ⟨⟨by decide +kernel, by decide +kernel⟩, List.mem_of_getElem? (i := 1343) (by decide +kernel), List.mem_of_getElem? (i := 1766) (by decide +kernel), List.mem_of_getElem? (i := 1767) (by decide +kernel)⟩
theorem lw_p79 : lw_okq (⟨"TownTableModel", "isCell", "(I)Z"⟩, 71) := ⟨⟨by decide +kernel, by decide +kernel⟩, List.mem_of_getElem? (i := 1343) (by decide +kernel), List.mem_of_getElem? (i := 1777) (by decide +kernel), List.mem_of_getElem? (i := 1778) (by decide +kernel)⟩
def lw_privs_5 : List (MethodName × Nat) := [(⟨"TownTableModel", "isOpened", "()Z"⟩, 71), (⟨"TownTableModel", "closes", "()V"⟩, 71), (⟨"TownTableModel", "copies", "([I[I)V"⟩, 71), (⟨"TownTableModel", "lightAt", "(I)I"⟩, 71), (⟨"TownTableModel", "isDull", "(I)Z"⟩, 71), (⟨"TownTableModel", "sumOf", "(III)I"⟩, 71), (⟨"TownTableModel", "parts", "()I"⟩, 71), (⟨"TownTableModel", "laysFar", "(I)V"⟩, 71), (⟨"TownTableModel", "beside", "(II)I"⟩, 71), (⟨"TownTableModel", "heldOnes", "()I"⟩, 71), (⟨"TownTableModel", "isFigure", "(I)Z"⟩, 71), (⟨"TownTableModel", "isWhat", "(II)Z"⟩, 71), (⟨"TownTableModel", "stepOf", "(II)I"⟩, 71), (⟨"TownTableModel", "withIt", "(II)I"⟩, 71), (⟨"TownTableModel", "atCell", "(II)I"⟩, 71), (⟨"TownTableModel", "isCell", "(I)Z"⟩, 71)]
theorem lw_r5 : ∀ q ∈ lw_privs_5, lw_okq q := List.forall_mem_cons.mpr ⟨lw_p64, List.forall_mem_cons.mpr ⟨lw_p65, List.forall_mem_cons.mpr ⟨lw_p66, List.forall_mem_cons.mpr ⟨lw_p67, List.forall_mem_cons.mpr ⟨lw_p68, List.forall_mem_cons.mpr ⟨lw_p69, List.forall_mem_cons.mpr ⟨lw_p70, List.forall_mem_cons.mpr ⟨lw_p71, List.forall_mem_cons.mpr ⟨lw_p72, List.forall_mem_cons.mpr ⟨lw_p73, List.forall_mem_cons.mpr ⟨lw_p74, List.forall_mem_cons.mpr ⟨lw_p75, List.forall_mem_cons.mpr ⟨lw_p76, List.forall_mem_cons.mpr ⟨lw_p77, List.forall_mem_cons.mpr ⟨lw_p78, List.forall_mem_cons.mpr ⟨lw_p79, fun _ h => absurd h List.not_mem_nil⟩⟩⟩⟩⟩⟩⟩⟩⟩⟩⟩⟩⟩⟩⟩⟩
theorem lw_p80 : lw_okq (⟨"TownTableModel", "seenFrom", "(I)I"⟩, 71) := ⟨⟨by decide +kernel, by decide +kernel⟩, List.mem_of_getElem? (i := 1343) (by decide +kernel), List.mem_of_getElem? (i := 1781) (by decide +kernel), List.mem_of_getElem? (i := 1782) (by decide +kernel)⟩
theorem lw_p81 : lw_okq (⟨"TownTableModel", "refuses", "(I)I"⟩, 71) := ⟨⟨by decide +kernel, by decide +kernel⟩, List.mem_of_getElem? (i := 1343) (by decide +kernel), List.mem_of_getElem? (i := 1789) (by decide +kernel), List.mem_of_getElem? (i := 1790) (by decide +kernel)⟩
theorem lw_p82 : lw_okq (⟨"TownTableModel", "keeps", "()V"⟩, 71) := ⟨⟨by decide +kernel, by decide +kernel⟩, List.mem_of_getElem? (i := 1343) (by decide +kernel), List.mem_of_getElem? (i := 1793) (by decide +kernel), List.mem_of_getElem? (i := 1794) (by decide +kernel)⟩
theorem lw_p83 : lw_okq (⟨"TownTableModel", "hourGoes", "(I)V"⟩, 71) := ⟨⟨by decide +kernel, by decide +kernel⟩, List.mem_of_getElem? (i := 1343) (by decide +kernel), List.mem_of_getElem? (i := 1797) (by decide +kernel), List.mem_of_getElem? (i := 1798) (by decide +kernel)⟩
theorem lw_p84 : lw_okq (⟨"TownTableModel", "figureGoes", "(II)V"⟩, 71) := ⟨⟨by decide +kernel, by decide +kernel⟩, List.mem_of_getElem? (i := 1343) (by decide +kernel), List.mem_of_getElem? (i := 1801) (by decide +kernel), List.mem_of_getElem? (i := 1802) (by decide +kernel)⟩
theorem lw_p85 : lw_okq (⟨"TownTableModel", "hurtsBy", "(II)I"⟩, 71) := ⟨⟨by decide +kernel, by decide +kernel⟩, List.mem_of_getElem? (i := 1343) (by decide +kernel), List.mem_of_getElem? (i := 1805) (by decide +kernel), List.mem_of_getElem? (i := 1806) (by decide +kernel)⟩
theorem lw_p86 : lw_okq (⟨"TownTableModel", "tells", "(II)V"⟩, 71) := ⟨⟨by decide +kernel, by decide +kernel⟩, List.mem_of_getElem? (i := 1343) (by decide +kernel), List.mem_of_getElem? (i := 1809) (by decide +kernel), List.mem_of_getElem? (i := 1810) (by decide +kernel)⟩
theorem lw_p87 : lw_okq (⟨"TownTableModel", "reckons", "(I)I"⟩, 71) := ⟨⟨by decide +kernel, by decide +kernel⟩, List.mem_of_getElem? (i := 1343) (by decide +kernel), List.mem_of_getElem? (i := 1813) (by decide +kernel), List.mem_of_getElem? (i := 1814) (by decide +kernel)⟩
theorem lw_p88 : lw_okq (⟨"TownTableModel", "isGoing", "(II)Z"⟩, 71) := ⟨⟨by decide +kernel, by decide +kernel⟩, List.mem_of_getElem? (i := 1343) (by decide +kernel), List.mem_of_getElem? (i := 1826) (by decide +kernel), List.mem_of_getElem? (i := 1827) (by decide +kernel)⟩
theorem lw_p89 : lw_okq (⟨"TownTableModel", "isSoon", "(III)Z"⟩, 71) := ⟨⟨by decide +kernel, by decide +kernel⟩, List.mem_of_getElem? (i := 1343) (by decide +kernel), List.mem_of_getElem? (i := 1850) (by decide +kernel), List.mem_of_getElem? (i := 1851) (by decide +kernel)⟩
theorem lw_p90 : lw_okq (⟨"TownTableModel", "goesTo", "(I)V"⟩, 71) := ⟨⟨by decide +kernel, by decide +kernel⟩, List.mem_of_getElem? (i := 1343) (by decide +kernel), List.mem_of_getElem? (i := 1854) (by decide +kernel), List.mem_of_getElem? (i := 1855) (by decide +kernel)⟩
theorem lw_p91 : lw_okq (⟨"TownTableModel", "tries", "()V"⟩, 71) := ⟨⟨by decide +kernel, by decide +kernel⟩, List.mem_of_getElem? (i := 1343) (by decide +kernel), List.mem_of_getElem? (i := 1858) (by decide +kernel), List.mem_of_getElem? (i := 1859) (by decide +kernel)⟩
theorem lw_p92 : lw_okq (⟨"TownTableModel", "hoursGo", "(I)V"⟩, 71) := ⟨⟨by decide +kernel, by decide +kernel⟩, List.mem_of_getElem? (i := 1343) (by decide +kernel), List.mem_of_getElem? (i := 1862) (by decide +kernel), List.mem_of_getElem? (i := 1863) (by decide +kernel)⟩
theorem lw_p93 : lw_okq (⟨"TownTableModel", "clears", "()V"⟩, 71) := ⟨⟨by decide +kernel, by decide +kernel⟩, List.mem_of_getElem? (i := 1343) (by decide +kernel), List.mem_of_getElem? (i := 1878) (by decide +kernel), List.mem_of_getElem? (i := 1879) (by decide +kernel)⟩
theorem lw_p94 : lw_okq (⟨"TownTableModel", "marks", "()V"⟩, 71) := ⟨⟨by decide +kernel, by decide +kernel⟩, List.mem_of_getElem? (i := 1343) (by decide +kernel), List.mem_of_getElem? (i := 1882) (by decide +kernel), List.mem_of_getElem? (i := 1883) (by decide +kernel)⟩
theorem lw_p95 : lw_okq (⟨"TownTableModel", "mostOften", "()I"⟩, 71) := ⟨⟨by decide +kernel, by decide +kernel⟩, List.mem_of_getElem? (i := 1343) (by decide +kernel), List.mem_of_getElem? (i := 1886) (by decide +kernel), List.mem_of_getElem? (i := 1887) (by decide +kernel)⟩
def lw_privs_6 : List (MethodName × Nat) := [(⟨"TownTableModel", "seenFrom", "(I)I"⟩, 71), (⟨"TownTableModel", "refuses", "(I)I"⟩, 71), (⟨"TownTableModel", "keeps", "()V"⟩, 71), (⟨"TownTableModel", "hourGoes", "(I)V"⟩, 71), (⟨"TownTableModel", "figureGoes", "(II)V"⟩, 71), (⟨"TownTableModel", "hurtsBy", "(II)I"⟩, 71), (⟨"TownTableModel", "tells", "(II)V"⟩, 71), (⟨"TownTableModel", "reckons", "(I)I"⟩, 71), (⟨"TownTableModel", "isGoing", "(II)Z"⟩, 71), (⟨"TownTableModel", "isSoon", "(III)Z"⟩, 71), (⟨"TownTableModel", "goesTo", "(I)V"⟩, 71), (⟨"TownTableModel", "tries", "()V"⟩, 71), (⟨"TownTableModel", "hoursGo", "(I)V"⟩, 71), (⟨"TownTableModel", "clears", "()V"⟩, 71), (⟨"TownTableModel", "marks", "()V"⟩, 71), (⟨"TownTableModel", "mostOften", "()I"⟩, 71)]
theorem lw_r6 : ∀ q ∈ lw_privs_6, lw_okq q := List.forall_mem_cons.mpr ⟨lw_p80, List.forall_mem_cons.mpr ⟨lw_p81, List.forall_mem_cons.mpr ⟨lw_p82, List.forall_mem_cons.mpr ⟨lw_p83, List.forall_mem_cons.mpr ⟨lw_p84, List.forall_mem_cons.mpr ⟨lw_p85, List.forall_mem_cons.mpr ⟨lw_p86, List.forall_mem_cons.mpr ⟨lw_p87, List.forall_mem_cons.mpr ⟨lw_p88, List.forall_mem_cons.mpr ⟨lw_p89, List.forall_mem_cons.mpr ⟨lw_p90, List.forall_mem_cons.mpr ⟨lw_p91, List.forall_mem_cons.mpr ⟨lw_p92, List.forall_mem_cons.mpr ⟨lw_p93, List.forall_mem_cons.mpr ⟨lw_p94, List.forall_mem_cons.mpr ⟨lw_p95, fun _ h => absurd h List.not_mem_nil⟩⟩⟩⟩⟩⟩⟩⟩⟩⟩⟩⟩⟩⟩⟩⟩
theorem lw_p96 : lw_okq (⟨"TownTableModel", "areAsNow", "()Z"⟩, 71) := ⟨⟨by decide +kernel, by decide +kernel⟩, List.mem_of_getElem? (i := 1343) (by decide +kernel), List.mem_of_getElem? (i := 1894) (by decide +kernel), List.mem_of_getElem? (i := 1895) (by decide +kernel)⟩
theorem lw_p97 : lw_okq (⟨"TownTableModel", "laysSeats", "()V"⟩, 71) := ⟨⟨by decide +kernel, by decide +kernel⟩, List.mem_of_getElem? (i := 1343) (by decide +kernel), List.mem_of_getElem? (i := 1934) (by decide +kernel), List.mem_of_getElem? (i := 1935) (by decide +kernel)⟩
theorem lw_p98 : lw_okq (⟨"TownTableModel", "canSit", "(III)Z"⟩, 71) := ⟨⟨by decide +kernel, by decide +kernel⟩, List.mem_of_getElem? (i := 1343) (by decide +kernel), List.mem_of_getElem? (i := 1938) (by decide +kernel), List.mem_of_getElem? (i := 1939) (by decide +kernel)⟩
theorem lw_p99 : lw_okq (⟨"TownTableModel", "sits", "(III)I"⟩, 71) := ⟨⟨by decide +kernel, by decide +kernel⟩, List.mem_of_getElem? (i := 1343) (by decide +kernel), List.mem_of_getElem? (i := 1942) (by decide +kernel), List.mem_of_getElem? (i := 1943) (by decide +kernel)⟩
theorem lw_p100 : lw_okq (⟨"TownTableModel", "isNoted", "()Z"⟩, 71) := ⟨⟨by decide +kernel, by decide +kernel⟩, List.mem_of_getElem? (i := 1343) (by decide +kernel), List.mem_of_getElem? (i := 1962) (by decide +kernel), List.mem_of_getElem? (i := 1963) (by decide +kernel)⟩
theorem lw_p101 : lw_okq (⟨"TownTableModel", "isGuess", "(I)Z"⟩, 71) := ⟨⟨by decide +kernel, by decide +kernel⟩, List.mem_of_getElem? (i := 1343) (by decide +kernel), List.mem_of_getElem? (i := 1966) (by decide +kernel), List.mem_of_getElem? (i := 1967) (by decide +kernel)⟩
theorem lw_p102 : lw_okq (⟨"TownTableModel", "gains", "(IIII)I"⟩, 71) := ⟨⟨by decide +kernel, by decide +kernel⟩, List.mem_of_getElem? (i := 1343) (by decide +kernel), List.mem_of_getElem? (i := 1982) (by decide +kernel), List.mem_of_getElem? (i := 1983) (by decide +kernel)⟩
theorem lw_p103 : lw_okq (⟨"TownTableModel", "happens", "()V"⟩, 71) := ⟨⟨by decide +kernel, by decide +kernel⟩, List.mem_of_getElem? (i := 1343) (by decide +kernel), List.mem_of_getElem? (i := 1990) (by decide +kernel), List.mem_of_getElem? (i := 1991) (by decide +kernel)⟩
theorem lw_p104 : lw_okq (⟨"TownTableModel", "draw", "(I)I"⟩, 71) := ⟨⟨by decide +kernel, by decide +kernel⟩, List.mem_of_getElem? (i := 1343) (by decide +kernel), List.mem_of_getElem? (i := 1994) (by decide +kernel), List.mem_of_getElem? (i := 1995) (by decide +kernel)⟩
def lw_privs_7 : List (MethodName × Nat) := [(⟨"TownTableModel", "areAsNow", "()Z"⟩, 71), (⟨"TownTableModel", "laysSeats", "()V"⟩, 71), (⟨"TownTableModel", "canSit", "(III)Z"⟩, 71), (⟨"TownTableModel", "sits", "(III)I"⟩, 71), (⟨"TownTableModel", "isNoted", "()Z"⟩, 71), (⟨"TownTableModel", "isGuess", "(I)Z"⟩, 71), (⟨"TownTableModel", "gains", "(IIII)I"⟩, 71), (⟨"TownTableModel", "happens", "()V"⟩, 71), (⟨"TownTableModel", "draw", "(I)I"⟩, 71)]
theorem lw_r7 : ∀ q ∈ lw_privs_7, lw_okq q := List.forall_mem_cons.mpr ⟨lw_p96, List.forall_mem_cons.mpr ⟨lw_p97, List.forall_mem_cons.mpr ⟨lw_p98, List.forall_mem_cons.mpr ⟨lw_p99, List.forall_mem_cons.mpr ⟨lw_p100, List.forall_mem_cons.mpr ⟨lw_p101, List.forall_mem_cons.mpr ⟨lw_p102, List.forall_mem_cons.mpr ⟨lw_p103, List.forall_mem_cons.mpr ⟨lw_p104, fun _ h => absurd h List.not_mem_nil⟩⟩⟩⟩⟩⟩⟩⟩⟩
def lw_privs : List (MethodName × Nat) := lw_privs_1 ++ (lw_privs_2 ++ (lw_privs_3 ++ (lw_privs_4 ++ (lw_privs_5 ++ (lw_privs_6 ++ (lw_privs_7))))))
def lw_tbl : List Cond := k2_sels lw_privs ++ tables_1
theorem lw_privs_ok : ∀ q ∈ lw_privs, lw_okq q := by
  show ∀ q ∈ lw_privs_1 ++ (lw_privs_2 ++ (lw_privs_3 ++ (lw_privs_4 ++ (lw_privs_5 ++ (lw_privs_6 ++ (lw_privs_7)))))), lw_okq q
  exact List.forall_mem_append.mpr ⟨lw_r1, List.forall_mem_append.mpr ⟨lw_r2, List.forall_mem_append.mpr ⟨lw_r3, List.forall_mem_append.mpr ⟨lw_r4, List.forall_mem_append.mpr ⟨lw_r5, List.forall_mem_append.mpr ⟨lw_r6, lw_r7⟩⟩⟩⟩⟩⟩
theorem tbl_end : True := trivial
end
section
/-! ===== BEGIN words of one list among another's, by their places ===== -/
theorem goodIn_r {big : List Cond} (ws : List Cond) (ps : List Nat) (hp : ws = ps.filterMap (fun i => big[i]?)) (h : ws.all goodWord = true) : GoodIn big ws := by
  intro w hw
  have h1 := List.all_eq_true.mp h w hw
  rw [hp] at hw
  obtain ⟨i, -, hi⟩ := List.mem_filterMap.mp hw
  have hm : w ∈ big := by first | exact List.mem_of_getElem? hi | exact List.getElem?_mem hi
  exact ⟨hm, good_of_word h1⟩
theorem goodIn_app {big a b : List Cond} (ha : GoodIn big a) (hb : GoodIn big b) : GoodIn big (a ++ b) := fun w h => (List.mem_append.mp h).elim (ha w) (hb w)
theorem goodIn_ca {big a b : List Cond} {c : Cond} (ha : GoodIn big (c :: a)) (hb : GoodIn big b) : GoodIn big (c :: (a ++ b)) := fun w h => (List.mem_cons.mp h).elim (fun e => ha w (List.mem_cons.mpr (Or.inl e))) (fun h => (List.mem_append.mp h).elim (fun h => ha w (List.mem_cons.mpr (Or.inr h))) (hb w))
theorem goodIn_sub {big ws : List Cond} (hm : ∀ w ∈ ws, w ∈ big) (h : ws.all goodWord = true) : GoodIn big ws := fun w hw => ⟨hm w hw, good_of_word (List.all_eq_true.mp h w hw)⟩
/-! ===== END ===== -/

/-! ===== BEGIN exceptions that leave a method, and their catching by the caller (launches without stack traces) ===== -/
section VXA
/-! The laws vx_back, vx_callV, vx_callS, vx_callSW, vx_throw0, vx_throwS follow proofs of the library, with one case more: JvmDerived/Free/Laws.lean (Back.of_free), Shelf42/LK1.lean (callV, callS), Shelf/KitTraced.lean (throwNew0V, throwNewS). -/
/-- where a method has thrown q: the class by its name, the cell, what was written, the world -/
def vx_T (XC : String → State → State → Prop) (st : State) (q : Addr) (t : State) (mc ms : Nat) (free : Addr → Prop) : Prop :=
  ∃ (E : String) (ce : Cell) (L : List Loc), XC E st t ∧ t.heap[q]? = some ce ∧ ce.vm = .none ∧ st.vm.findClass E = some ce.cls ∧ st.WarmedH t.vm ∧ st.sameButNew ({ t with vm := st.vm } : State) L mc ms ∧ ∀ z ∈ L, free z.base
def vx_Q (Qc : Array Value → State → Outcome → State → Prop) (XC : String → State → State → Prop) (mc ms : Nat) (free : Addr → Prop) : Array Value → State → Outcome → State → Prop := fun a st o t =>
  (Qc a st o t ∧ ∃ L, FrameEnd st o t L mc ms ∧ ∀ q ∈ L, free q.base) ∨ ∃ q, o = .threw q ∧ vx_T XC st q t mc ms free
/-- a callee that returns or throws -/
def vx_Met (l : Launch) (y : MethodName) (ws : List Cond) (rm : Room) (Pc : Array Value → State → Prop) (Qc : Array Value → State → Outcome → State → Prop) (XC : String → State → State → Prop) (mc ms : Nat) (free : Addr → Prop) : Prop :=
  MetFree l y (headSpec ws rm) Pc (fun _ _ _ _ _ => True) (vx_Q Qc XC mc ms free)
def vx_Post (XC : String → State → State → Prop) (mc ms : Nat) (free : Addr → Prop) : Pt → Array Value → Addr → Pt → Prop := fun A a q B =>
  ∃ (g : JFrame) (mk : MethodId) (t : State) (L : List Loc) (E : String) (ce : Cell), B.U.heap = t.heap ∧ B.U.vm = t.vm ∧ XC E (A.U.calling g mk a) t ∧ t.heap[q]? = some ce ∧ ce.vm = .none ∧ A.U.vm.findClass E = some ce.cls ∧ B.locs = A.locs ++ L ∧ (∀ z ∈ L, free z.base) ∧ B.cells = A.cells + mc ∧ B.slots = A.slots + ms
def vx_Back (l : Launch) (R : Room) (p : Program) (e : Env) (below : List Frame) (s : State) (sargs : Array Value) (y : MethodName) (len W9 : Nat)
    (Pre : Pt → Array Value → Prop) (Post : Pt → Array Value → Option Value → Pt → Prop) (PostX : Pt → Array Value → Addr → Pt → Prop) : Prop :=
  ∀ (m : MethodId) (meth : Method) (c : Code) (A : Pt) (g : JFrame) (ig : Instr) (mk : MethodId) (a : Array Value),
    Stand p l e R s m sargs below meth c A.U A.locs A.cells A.slots → g.method = m → g.locals.size = c.maxLocals → decode c.code g.pc = .ok (ig, len) →
    2 * g.monitorRoom + (g.stack.map fun v => v.category).sum ≤ W9 → A.U.methodNamed? y = some mk → Pre A a →
    (∃ (v : Option Value) (B : Pt), Stand p l e R s m sargs below meth c B.U B.locs B.cells B.slots ∧ Post A a v B ∧
      Steps p.tables e below (doInvoke e (A.U.setTop g) [] mk a).1 (B.U.setTop { g with pc := g.pc + len, stack := v.toList ++ g.stack })) ∨
    (∃ (q : Addr) (B : Pt), Stand p l e R s m sargs below meth c B.U B.locs B.cells B.slots ∧ PostX A a q B ∧
      Steps p.tables e below (doInvoke e (A.U.setTop g) [] mk a).1 ((B.U.setTop g).pushFrame (.throwing q)))
section Payer
variable {l : Launch} {R : Room} {p : Program} {e : Env} {below : List Frame} {s : State} {sargs : Array Value} {y : MethodName} {len W9 : Nat}
theorem vx_back {ws : List Cond} {rm : Room} {Pc : Array Value → State → Prop} {Qc : Array Value → State → Outcome → State → Prop} {XC : String → State → State → Prop} {mc ms : Nat} {free : Addr → Prop} {bytes : ByteArray} {maxL : Nat} {ret : Option FieldType}
    (hM : vx_Met l y ws rm Pc Qc XC mc ms free) (hblind : FrameBlind Pc) (hrc : rm.cells = mc) (hrs : rm.slots = ms)
    (hframes : rm.frames + 1 ≤ R.frames) (hlocals : W9 + (maxL + 11) + rm.locals ≤ R.locals)
    (hws : ∀ w ∈ ws, ∀ a' U, s.WarmedH U.vm → w.before a' U = true) (hcode : Cond.code y bytes maxL ret ∈ ws) (hinit : ∀ a' U, s.WarmedH U.vm → (Cond.initialized y.cls).before a' U = true) :
    vx_Back l R p e below s sargs y len W9 (PreOf R mc ms Pc) (PostOf Qc mc ms free) (vx_Post XC mc ms free) := by
  intro m meth c A g ig mk a X hg hsize hdg hW hn hp
  have h1 : (headSpec ws rm).pre.before a A.U = true := atoms_intro fun w hw => hws w hw _ _ X.warmed
  have h2 : (Cond.code y bytes maxL ret).before a A.U = true := hws _ hcode _ _ X.warmed
  have h3 : (Cond.initialized y.cls).before a A.U = true := hinit _ _ X.warmed
  have h4 : A.cells + (headSpec ws rm).room.cells ≤ R.cells := by rw [show (headSpec ws rm).room.cells = mc from hrc]; exact hp.1
  have h5 : A.slots + (headSpec ws rm).room.slots ≤ R.slots := by rw [show (headSpec ws rm).room.slots = ms from hrs]; exact hp.2.1
  have hPc : Pc a (A.U.calling g mk a) := hblind _ _ _ _ hp.2.2
  obtain ⟨U, Ls, c0, s0⟩ := A
  dsimp only [Pt.U, Pt.locs, Pt.cells, Pt.slots] at h1 h2 h3 h4 h5 X hn hPc ⊢
  obtain ⟨methY, cY, hmY, hcY, -, hlY, -, -, -, -⟩ := Cond.code_spec hn h2
  obtain ⟨kY, hkY, -⟩ := className_of_methodNamed hn
  have hinitY : kY.init = .initialized := Cond.initialized_spec (findClass_of_methodNamed hn) hkY h3
  have h : At U g.method c below := by rw [hg]; exact X.here
  have hlocals9 : W9 + (maxL + 11) + (headSpec ws rm).room.locals ≤ R.locals := hlocals
  have happ : (headSpec ws rm).appliesLoose y e.platform (U.calling g mk a) = true :=
    Spec.appliesLoose_calling (g := g) h hdg hn hkY hinitY
      (X.room_calling (g := g) (R' := (headSpec ws rm).room) hsize hmY hcY hframes (by rw [hlY]; omega) h4 h5) h1
  obtain ⟨mid, hmid⟩ := h.above
  have hfr : (U.setTop g).frames = (.java g :: mid) ++ below := by rw [State.frames_setTop' g h.top, hmid]; rfl
  obtain ⟨o, s₂, hsteps, -, hend, hq⟩ := Steps.callFree hM p X.admits X.cas X.clock (acts := []) hfr happ hPc trivial
  have hq' : vx_Q Qc XC mc ms free a (U.calling g mk a) o s₂ := hq
  rw [State.frames_setTop' g h.top] at hend
  obtain ⟨g₀, hg0⟩ := Option.isSome_iff_exists.mp h.top
  obtain ⟨r, hr⟩ := State.topJava?_eq_some.mp hg0
  have hr' : (({ U with heap := s₂.heap, slotsUsed := s₂.slotsUsed } : State).setVm s₂.vm).frames = .java g₀ :: r := hr
  rcases hq' with ⟨hqc, L, hfe, hL⟩ | ⟨q, rfl, E, ce, L, hx, hce, hcv, hcl, hW₂, hsm, hL⟩
  · obtain ⟨⟨v, rfl⟩, hW₂, e2, q2, q3, q4, q5, q6⟩ := id hfe
    have e3 : s₂ = ({ (U.calling g mk a).setFrames s₂.frames with heap := s₂.heap, slotsUsed := s₂.slotsUsed } : State).setVm s₂.vm := by
      have : s₂ = ({ s₂ with vm := (U.calling g mk a).vm } : State).setVm s₂.vm := rfl
      rw [e2] at this
      exact this
    obtain ⟨c₂, i₂, len₂, hc₂, hd₂, hf₂⟩ := hend
    have hW' : U.WarmedH s₂.vm := hW₂
    have hcc : c₂ = c := by
      have h1 : s₂.code? g.method = U.code? g.method := by
        rw [State.code?_eq, State.code?_eq, hW'.alike.method?]
      exact Option.some.inj (hc₂.symm.trans (h1.trans h.code))
    subst hcc
    have hlen : len₂ = len := by rw [hdg] at hd₂; cases hd₂; rfl
    subst hlen
    have hs₂ : s₂ = (({ U with heap := s₂.heap, slotsUsed := s₂.slotsUsed } : State).setVm s₂.vm).setTop { g with pc := g.pc + len₂, stack := v.toList ++ g.stack } := by
      refine e3.trans ?_
      rw [hf₂, State.calling_eq h.top, State.setFrames_setFrames, State.setTop_of_frames _ hr', hr]
      rfl
    have hsame : U.sameButNew ({ U with heap := s₂.heap, slotsUsed := s₂.slotsUsed } : State) L mc ms := by
      refine ⟨?_, q2, q3, q4, q5, q6⟩
      obtain ⟨t, ht, -⟩ := State.frames_cons hr
      show ({ U with heap := s₂.heap, slotsUsed := s₂.slotsUsed } : State) = { U.setFrames U.frames with heap := s₂.heap, slotsUsed := s₂.slotsUsed }
      rw [State.setFrames_self ht]
    subst hg
    refine Or.inl ⟨v, ⟨(({ U with heap := s₂.heap, slotsUsed := s₂.slotsUsed } : State).setVm s₂.vm), Ls ++ L, c0 + mc, s0 + ms⟩,
      ⟨X.admits, X.cas, X.clock, X.frames, X.room, X.hears, X.method, X.code, (X.here.setHeapUsed s₂.heap s₂.slotsUsed).setVm hW'.alike, X.tail, State.WarmedH.trans X.warmed hW', X.limits, X.bytes, X.same.trans (hsame.setVm s.vm)⟩,
      ⟨g, mk, s₂, L, rfl, rfl, hqc, rfl, hL, rfl, rfl⟩, ?_⟩
    show Steps p.tables e below _ ((({ U with heap := s₂.heap, slotsUsed := s₂.slotsUsed } : State).setVm s₂.vm).setTop { g with pc := g.pc + len₂, stack := v.toList ++ g.stack })
    rw [← hs₂]
    exact hsteps
  · obtain ⟨e2, q2, q3, q4, q5, q6⟩ := id hsm
    have e3 : s₂ = ({ (U.calling g mk a).setFrames s₂.frames with heap := s₂.heap, slotsUsed := s₂.slotsUsed } : State).setVm s₂.vm := by
      have : s₂ = ({ s₂ with vm := (U.calling g mk a).vm } : State).setVm s₂.vm := rfl
      rw [e2] at this
      exact this
    have hf₂ : s₂.frames = .throwing q :: .java g :: U.frames.tail := hend
    have hW' : U.WarmedH s₂.vm := hW₂
    have hs₂ : s₂ = ((({ U with heap := s₂.heap, slotsUsed := s₂.slotsUsed } : State).setVm s₂.vm).setTop g).pushFrame (.throwing q) := by
      refine e3.trans ?_
      rw [hf₂, State.calling_eq h.top, State.setFrames_setFrames, State.pushFrame, State.frames_setTop _ hr', State.setTop_of_frames _ hr', State.setFrames_setFrames, hr]
      rfl
    have hsame : U.sameButNew ({ U with heap := s₂.heap, slotsUsed := s₂.slotsUsed } : State) L mc ms := by
      refine ⟨?_, q2, q3, q4, q5, q6⟩
      obtain ⟨t, ht, -⟩ := State.frames_cons hr
      show ({ U with heap := s₂.heap, slotsUsed := s₂.slotsUsed } : State) = { U.setFrames U.frames with heap := s₂.heap, slotsUsed := s₂.slotsUsed }
      rw [State.setFrames_self ht]
    subst hg
    refine Or.inr ⟨q, ⟨(({ U with heap := s₂.heap, slotsUsed := s₂.slotsUsed } : State).setVm s₂.vm), Ls ++ L, c0 + mc, s0 + ms⟩,
      ⟨X.admits, X.cas, X.clock, X.frames, X.room, X.hears, X.method, X.code, (X.here.setHeapUsed s₂.heap s₂.slotsUsed).setVm hW'.alike, X.tail, State.WarmedH.trans X.warmed hW', X.limits, X.bytes, X.same.trans (hsame.setVm s.vm)⟩,
      ⟨g, mk, s₂, L, E, ce, rfl, rfl, hx, hce, hcv, hcl, rfl, hL, rfl, rfl⟩, ?_⟩
    show Steps p.tables e below _ (((({ U with heap := s₂.heap, slotsUsed := s₂.slotsUsed } : State).setVm s₂.vm).setTop g).pushFrame (.throwing q))
    rw [← hs₂]
    exact hsteps
end Payer
section Calls
variable {p : Program} {l : Launch} {e : Env} {R : Room} {s : State} {m : MethodId} {args : Array Value} {below : List Frame} {meth : Method} {c : Code} {T : State} {locs : List Loc} {cells slots : Nat}
theorem vx_callV (X : Stand p l e R s m args below meth c T locs cells slots) (hexec : p.tables.exec = Jvm.exec) {own C : String} {index : Nat} {y : MethodName} {bytes : ByteArray} {maxL : Nat} {ret : Option FieldType}
    (hown : s.vm.findClass own = some m.cls) (hlink : (Cond.methodLink own index y).before args s = true) (hinst : (Cond.instanceMethod y).before args s = true) (hsel : (Cond.selects C y y).before args s = true)
    (hcode : (Cond.code y bytes maxL ret).before args s = true) (hy : y.cls ≠ "java/lang/invoke/MethodHandle" ∧ y.cls ≠ "java/lang/invoke/VarHandle")
    {W9 : Nat} {Pre : Pt → Array Value → Prop} {Post : Pt → Array Value → Option Value → Pt → Prop} {PostX : Pt → Array Value → Addr → Pt → Prop} (hK : vx_Back l R p e below s args y 3 W9 Pre Post PostX)
    {b : Addr} {cellB : Cell} (hcell : T.heap[b]? = some cellB) (hobj : cellB.vm.isStatics = false) (hcls : s.vm.findClass C = some cellB.cls)
    {g : JFrame} (hg : g.method = m) (hsize : g.locals.size = c.maxLocals) {argsL rest : List Value} (hlen : ∀ sig, parseMethodDescriptor y.desc = some sig → argsL.length = sig.parameters.length)
    (hstack : g.stack = argsL.reverse ++ .ref b :: rest) (hW : 2 * g.monitorRoom + (rest.map fun v => v.category).sum ≤ W9) (hdg : decode c.code g.pc = .ok (.invokevirtual index, 3))
    (hpre : ∀ vm₁, s.WarmedH vm₁ → Pre ⟨T.setVm vm₁, locs, cells, slots⟩ (Value.ref b :: argsL).toArray) :
    (∃ (v : Option Value) (vm₁ : Vm) (B : Pt), s.WarmedH vm₁ ∧ Stand p l e R s m args below meth c B.U B.locs B.cells B.slots ∧ Post ⟨T.setVm vm₁, locs, cells, slots⟩ (Value.ref b :: argsL).toArray v B ∧
      ∀ target, Steps p.tables e below (B.U.setTop { g with pc := g.pc + 3, stack := v.toList ++ rest }) target → Steps p.tables e below (T.setTop g) target) ∨
    (∃ (q : Addr) (vm₁ : Vm) (B : Pt), s.WarmedH vm₁ ∧ Stand p l e R s m args below meth c B.U B.locs B.cells B.slots ∧ PostX ⟨T.setVm vm₁, locs, cells, slots⟩ (Value.ref b :: argsL).toArray q B ∧
      Steps p.tables e below (T.setTop g) ((B.U.setTop { g with stack := rest }).pushFrame (.throwing q))) := by
  obtain ⟨mk, methM, hnamed, hmethM, hstM, habM⟩ := Cond.instanceMethod_spec hinst
  obtain ⟨methM', cM, hmethM', -, -, -, -, -, -, hsigM⟩ := Cond.code_spec hnamed hcode
  cases hmethM.symm.trans hmethM'
  obtain ⟨c2, r2, m2, q1, q2, q3, q4, kP, hkP, hkPi⟩ := Cond.selects_spec hsel
  cases hcls.symm.trans q1
  cases (State.methodFound?_of_named hnamed hy).symm.trans q2
  cases hnamed.symm.trans q3
  have hselP : selectMethod e.platform s.vm cellB.cls mk = .method mk := by rw [Launch.admits_selectMethod X.admits]; exact q4
  obtain ⟨vm₁, X₁, hstep₁⟩ := X.invokevirtual hexec hown hlink hnamed hmethM hstM hkP hkPi hy (a := b) (cell := cellB) hcell
    (fun z h => by rw [h] at hobj; cases hobj) hselP hmethM habM hkP hkPi (g := g) hg (argsL := argsL) (rest := rest) (hlen _ hsigM) hstack hdg
  rcases hK m meth c ⟨T.setVm vm₁, locs, cells, slots⟩ { g with stack := rest } (.invokevirtual index) mk (Value.ref b :: argsL).toArray X₁ hg hsize hdg hW (X₁.named hnamed) (hpre vm₁ X₁.warmed) with ⟨v, B, X', hpost, hsteps⟩ | ⟨q, B, X', hpost, hsteps⟩
  · exact Or.inl ⟨v, vm₁, B, X₁.warmed, X', hpost, fun target h => hstep₁ _ fun acts => by rw [doInvoke_state]; exact hsteps.trans h⟩
  · exact Or.inr ⟨q, vm₁, B, X₁.warmed, X', hpost, hstep₁ _ fun acts => by rw [doInvoke_state]; exact hsteps⟩
theorem vx_callS (X : Stand p l e R s m args below meth c T locs cells slots) (hexec : p.tables.exec = Jvm.exec) {own : String} {index : Nat} {y : MethodName} {bytes : ByteArray} {maxL : Nat} {ret : Option FieldType}
    (hown : s.vm.findClass own = some m.cls) (hlink : (Cond.methodLink own index y).before args s = true) (hstat : (Cond.static y).before args s = true) (hinit : (Cond.initialized y.cls).before args s = true)
    (hcode : (Cond.code y bytes maxL ret).before args s = true) (hy : y.cls ≠ "java/lang/invoke/MethodHandle" ∧ y.cls ≠ "java/lang/invoke/VarHandle")
    {W9 : Nat} {Pre : Pt → Array Value → Prop} {Post : Pt → Array Value → Option Value → Pt → Prop} {PostX : Pt → Array Value → Addr → Pt → Prop} (hK : vx_Back l R p e below s args y 3 W9 Pre Post PostX)
    {g : JFrame} (hg : g.method = m) (hsize : g.locals.size = c.maxLocals) {argsL rest : List Value} (hlen : ∀ sig, parseMethodDescriptor y.desc = some sig → argsL.length = sig.parameters.length)
    (hstack : g.stack = argsL.reverse ++ rest) (hW : 2 * g.monitorRoom + (rest.map fun v => v.category).sum ≤ W9) (hdg : decode c.code g.pc = .ok (.invokestatic index, 3))
    (hpre : ∀ vm₁, s.WarmedH vm₁ → Pre ⟨T.setVm vm₁, locs, cells, slots⟩ argsL.toArray) :
    (∃ (v : Option Value) (vm₁ : Vm) (B : Pt), s.WarmedH vm₁ ∧ Stand p l e R s m args below meth c B.U B.locs B.cells B.slots ∧ Post ⟨T.setVm vm₁, locs, cells, slots⟩ argsL.toArray v B ∧
      ∀ target, Steps p.tables e below (B.U.setTop { g with pc := g.pc + 3, stack := v.toList ++ rest }) target → Steps p.tables e below (T.setTop g) target) ∨
    (∃ (q : Addr) (vm₁ : Vm) (B : Pt), s.WarmedH vm₁ ∧ Stand p l e R s m args below meth c B.U B.locs B.cells B.slots ∧ PostX ⟨T.setVm vm₁, locs, cells, slots⟩ argsL.toArray q B ∧
      Steps p.tables e below (T.setTop g) ((B.U.setTop { g with stack := rest }).pushFrame (.throwing q))) := by
  obtain ⟨mk, hnamed⟩ := Cond.code_named hcode
  obtain ⟨methM, cM, hmethM, -, -, -, -, -, -, hsigM⟩ := Cond.code_spec hnamed hcode
  have hstatic : methM.isStatic = true := Cond.static_spec hnamed hmethM hstat
  obtain ⟨kP, hkP, -⟩ := className_of_methodNamed hnamed
  have hinitP : kP.init = .initialized := Cond.initialized_spec (findClass_of_methodNamed hnamed) hkP hinit
  obtain ⟨vm₁, X₁, hstep₁⟩ := X.invokestatic hexec hown hlink hnamed hmethM hstatic hkP hinitP hy (g := g) hg (argsL := argsL) (rest := rest) (hlen _ hsigM) hstack hdg
  rcases hK m meth c ⟨T.setVm vm₁, locs, cells, slots⟩ { g with stack := rest } (.invokestatic index) mk argsL.toArray X₁ hg hsize hdg hW (X₁.named hnamed) (hpre vm₁ X₁.warmed) with ⟨v, B, X', hpost, hsteps⟩ | ⟨q, B, X', hpost, hsteps⟩
  · exact Or.inl ⟨v, vm₁, B, X₁.warmed, X', hpost, fun target h => hstep₁ _ fun acts => by rw [doInvoke_state]; exact hsteps.trans h⟩
  · exact Or.inr ⟨q, vm₁, B, X₁.warmed, X', hpost, hstep₁ _ fun acts => by rw [doInvoke_state]; exact hsteps⟩
end Calls
theorem vx_cls {s : State} {T : State} {vm₁ : Vm} {E : String} {k : ClassId} (hW : s.WarmedH vm₁) (h : (T.setVm vm₁).vm.findClass E = some k) : s.vm.findClass E = some k := by
  have h1 : vm₁.findClass E = some k := h
  rw [hW.alike.findClass] at h1
  exact h1
/-- the method's frame g, with q thrown over it -/
def vx_W (p : Program) (l : Launch) (e : Env) (R : Room) (s : State) (m : MethodId) (args : Array Value) (below : List Frame) (meth : Method) (c : Code) (H : Heap) (locs : List Loc) (cells slots : Nat) (Q : State → Prop) (g : JFrame) (q : Addr) : Prop :=
  ∀ T : State, T.heap = H → Stand p l e R s m args below meth c T locs cells slots → ∃ t, Steps p.tables e below ((T.setTop g).pushFrame (.throwing q)) t ∧ Q t
def vx_Run (p : Program) (l : Launch) (e : Env) (R : Room) (s : State) (m : MethodId) (args : Array Value) (below : List Frame) (meth : Method) (c : Code) (H : Heap) (locs : List Loc) (cells slots mc ms : Nat) (g : JFrame) (rest : List Value) (Qa : State → Outcome → State → Prop) (XC : String → State → State → Prop) (free : Addr → Prop) : Prop :=
  ∀ T : State, T.heap = H → Stand p l e R s m args below meth c T locs cells slots →
    (∃ (v : Option Value) (st₀ t T' : State) (L : List Loc), st₀.heap = H ∧ Stand p l e R s m args below meth c T' (locs ++ L) (cells + mc) (slots + ms) ∧ (∀ q ∈ L, free q.base) ∧ T'.heap = t.heap ∧ T'.vm = t.vm ∧ Qa st₀ (.returned v) t ∧
      Goes p e below T g T' { g with pc := g.pc + 3, stack := v.toList ++ rest }) ∨
    (∃ (q : Addr) (st₀ t T' : State) (L : List Loc) (E : String) (ce : Cell), st₀.heap = H ∧ Stand p l e R s m args below meth c T' (locs ++ L) (cells + mc) (slots + ms) ∧ (∀ z ∈ L, free z.base) ∧ T'.heap = t.heap ∧ T'.vm = t.vm ∧ XC E st₀ t ∧ t.heap[q]? = some ce ∧ ce.vm = .none ∧ s.vm.findClass E = some ce.cls ∧
      Steps p.tables e below (T.setTop g) ((T'.setTop { g with stack := rest }).pushFrame (.throwing q)))
def vx_X {S : Type} (px : S → Prop) (B : String → S → State → Prop) (A : Nat → Prop) : String → State → State → Prop := fun E st t => ∃ u : S, px u ∧ B E u t ∧ va_F A st t
section Runs
variable {p : Program} {l : Launch} {e : Env} {R : Room} {s : State} {m : MethodId} {args : Array Value} {below : List Frame} {meth : Method} {c : Code} {H : Heap} {locs : List Loc} {cells slots : Nat}
variable {y : MethodName} {bytes cc : ByteArray} {maxL nL mc ms n index : Nat} {ret : Option FieldType} {ws : List Cond} {rm : Room} {Pc : Array Value → State → Prop} {Qc : Array Value → State → Outcome → State → Prop} {XC : String → State → State → Prop} {free : Addr → Prop} {Ts : List Cond} {own C : String} {b : Addr} {As rest : List Value} {g : JFrame}
theorem vx_callBack (cb : CallB R s args own index y bytes maxL ret ws rm mc ms n) (hM : vx_Met l y ws rm Pc Qc XC mc ms free) (hbl : FrameBlind Pc) : vx_Back l R p e below s args y 3 8 (PreOf R mc ms Pc) (PostOf Qc mc ms free) (vx_Post XC mc ms free) := by
  obtain ⟨hrc, hrs, hfr, hlo, hws, hcw, -, hini, -⟩ := cb
  exact vx_back (bytes := bytes) (maxL := maxL) (ret := ret) hM hbl hrc hrs hfr hlo hws hcw (fun a' U hW => word_at hW (Or.inl (by first | rfl | simp [Cond.onTables, Cond.keeps, Cond.steady])) hini)
theorem vx_runV (S : CallFix p m c cc nL s args Ts own) (hM : vx_Met l y ws rm Pc Qc XC mc ms free) (cw : CallW R s args own C index y bytes maxL ret ws rm mc ms n) (hp : PreV s H C b Pc As)
    (hg : g.method = m) (hn : As.length = n) (hsize : g.locals.size = nL) (hstack : g.stack = As.reverse ++ .ref b :: rest) (hW : 2 * g.monitorRoom + (rest.map fun v => v.category).sum ≤ 8) (hdg : decode cc g.pc = .ok (.invokevirtual index, 3)) (hf : cells + mc ≤ R.cells ∧ slots + ms ≤ R.slots) :
    vx_Run p l e R s m args below meth c H locs cells slots mc ms g rest (Qc (Value.ref b :: As).toArray) XC free := by
  have hK : vx_Back l R p e below s args y 3 8 (PreOf R mc ms Pc) (PostOf Qc mc ms free) (vx_Post XC mc ms free) := vx_callBack cw.1 hM hp.1
  obtain ⟨⟨-, -, -, -, -, -, hcode, -, hy, hlen, hl⟩, hin, hse⟩ := cw
  obtain ⟨hx, hb, hml, ho, -⟩ := S
  obtain ⟨-, ⟨cellB, hcB, hoB, hclB⟩, hPc⟩ := hp
  intro T hT X
  rcases vx_callV X hx (C := C) (bytes := bytes) (maxL := maxL) (ret := ret) ho hl hin hse hcode hy hK (by rw [hT]; exact hcB) hoB hclB hg (hsize.trans hml.symm) (argsL := As) (rest := rest) (fun sig h => hn.trans (hlen sig h)) hstack hW (by rw [hb]; exact hdg)
    (fun vm₁ hW₁ => ⟨hf.1, hf.2, hPc (T.setVm vm₁) hT hW₁⟩) with ⟨v, vm₁, ⟨U', l2, c2, s2⟩, hW₁, X', ⟨g', mk, t, L, e1, e2, hq, h1, hL, h2, h3⟩, st⟩ | ⟨q, vm₁, ⟨U', l2, c2, s2⟩, hW₁, X', ⟨g', mk, t, L, E, ce, e1, e2, hq, hce, hcv, hcl, h1, hL, h2, h3⟩, st⟩
  · dsimp only [Pt.U, Pt.locs, Pt.cells, Pt.slots] at X' e1 e2 h1 h2 h3 st
    subst h1; subst h2; subst h3
    exact Or.inl ⟨v, (T.setVm vm₁).calling g' mk (Value.ref b :: As).toArray, t, U', L, hT, X', hL, e1, e2, hq, st⟩
  · dsimp only [Pt.U, Pt.locs, Pt.cells, Pt.slots] at X' e1 e2 h1 h2 h3 st hcl
    subst h1; subst h2; subst h3
    exact Or.inr ⟨q, (T.setVm vm₁).calling g' mk (Value.ref b :: As).toArray, t, U', L, E, ce, hT, X', hL, e1, e2, hq, hce, hcv, vx_cls hW₁ hcl, st⟩
theorem vx_runS (S : CallFix p m c cc nL s args Ts own) (hM : vx_Met l y ws rm Pc Qc XC mc ms free) (cw : CallB R s args own index y bytes maxL ret ws rm mc ms n ∧ (Cond.static y).before args s = true) (hp : PreS s H Pc As)
    (hg : g.method = m) (hn : As.length = n) (hsize : g.locals.size = nL) (hstack : g.stack = As.reverse ++ rest) (hW : 2 * g.monitorRoom + (rest.map fun v => v.category).sum ≤ 8) (hdg : decode cc g.pc = .ok (.invokestatic index, 3)) (hf : cells + mc ≤ R.cells ∧ slots + ms ≤ R.slots) :
    vx_Run p l e R s m args below meth c H locs cells slots mc ms g rest (Qc As.toArray) XC free := by
  have hK : vx_Back l R p e below s args y 3 8 (PreOf R mc ms Pc) (PostOf Qc mc ms free) (vx_Post XC mc ms free) := vx_callBack cw.1 hM hp.1
  obtain ⟨⟨-, -, -, -, -, -, hcode, hini, hy, hlen, hl⟩, hstt⟩ := cw
  obtain ⟨hx, hb, hml, ho, -⟩ := S
  intro T hT X
  rcases vx_callS X hx (bytes := bytes) (maxL := maxL) (ret := ret) ho hl hstt hini hcode hy hK hg (hsize.trans hml.symm) (argsL := As) (rest := rest) (fun sig h => hn.trans (hlen sig h)) hstack hW (by rw [hb]; exact hdg)
    (fun vm₁ hW₁ => ⟨hf.1, hf.2, hp.2 (T.setVm vm₁) hT hW₁⟩) with ⟨v, vm₁, ⟨U', l2, c2, s2⟩, hW₁, X', ⟨g', mk, t, L, e1, e2, hq, h1, hL, h2, h3⟩, st⟩ | ⟨q, vm₁, ⟨U', l2, c2, s2⟩, hW₁, X', ⟨g', mk, t, L, E, ce, e1, e2, hq, hce, hcv, hcl, h1, hL, h2, h3⟩, st⟩
  · dsimp only [Pt.U, Pt.locs, Pt.cells, Pt.slots] at X' e1 e2 h1 h2 h3 st
    subst h1; subst h2; subst h3
    exact Or.inl ⟨v, (T.setVm vm₁).calling g' mk As.toArray, t, U', L, hT, X', hL, e1, e2, hq, st⟩
  · dsimp only [Pt.U, Pt.locs, Pt.cells, Pt.slots] at X' e1 e2 h1 h2 h3 st hcl
    subst h1; subst h2; subst h3
    exact Or.inr ⟨q, (T.setVm vm₁).calling g' mk As.toArray, t, U', L, E, ce, hT, X', hL, e1, e2, hq, hce, hcv, vx_cls hW₁ hcl, st⟩
end Runs
section Rows
variable {p : Program} {l : Launch} {e : Env} {R : Room} {s : State} {m : MethodId} {args : Array Value} {below : List Frame} {meth : Method} {c : Code} {H : Heap} {locs : List Loc} {cells slots : Nat} {Q : State → Prop}
variable {mc ms : Nat} {free : Addr → Prop} {A0 A1 : Nat → Prop} {H0 : Heap} {a : Array Value} {pc : Nat} {ls : Array Slot} {st0 rest : List Value}
theorem vx_keep {st₀ t T' : State} {L : List Loc} (h0 : st₀.heap = H) (e1 : T'.heap = t.heap) (hS : va_S A0 H0 H locs) (hA : ∀ q, q < H.size → A1 q → A0 q) (hf : ∀ q, free q → A0 q) (hL : ∀ q ∈ L, free q.base) (hF : va_F A1 st₀ t) :
    H.size ≤ T'.heap.size ∧ (∀ q : Nat, q < H.size → ¬ A1 q → T'.heap[q]? = H[q]?) ∧ va_S A0 H0 T'.heap (locs ++ L) := by
  obtain ⟨hz, hk⟩ := hF
  rw [h0] at hz hk
  exact ⟨by rw [e1]; exact hz, fun q h1 h2 => by rw [e1]; exact hk q h1 h2,
    ⟨Nat.le_trans hS.1 (by rw [e1]; exact hz), fun q h1 h2 => by rw [e1, hk q (Nat.lt_of_lt_of_le h1 hS.1) (fun z => h2 (hA q (Nat.lt_of_lt_of_le h1 hS.1) z))]; exact hS.2.1 q h1 h2, fun q hq => by
      rcases List.mem_append.mp hq with h | h
      · exact hS.2.2 q h
      · exact hf _ (hL q h)⟩⟩
theorem vx_calli {S SX : Type} {post : Int32 → S → Prop} {px : SX → Prop} {B : S → State → Prop} {BX : String → SX → State → Prop} {AX : Nat → Prop} (hr : vx_Run p l e R s m args below meth c H locs cells slots mc ms (F0 m pc ls st0) rest (va_Qi post B A1 a) (vx_X px BX AX) free) (hS : va_S A0 H0 H locs) (hA : ∀ q, q < H.size → A1 q → A0 q) (hf : ∀ q, free q → A0 q) (hAX : ∀ q, q < H.size → AX q → A0 q)
    (kx : ∀ (E : String) (ce : Cell) (q9 : Addr) (u : SX) (t : State) (H1 : Heap) (locs1 : List Loc), t.heap = H1 → s.vm.Alike t.vm → px u → BX E u t → H.size ≤ H1.size → (∀ q : Nat, q < H.size → ¬ AX q → H1[q]? = H[q]?) → va_S A0 H0 H1 locs1 → H1[q9]? = some ce → ce.vm = .none → s.vm.findClass E = some ce.cls → vx_W p l e R s m args below meth c H1 locs1 (cells + mc) (slots + ms) Q (F0 m pc ls rest) q9)
    (kk : ∀ (r : Int32) (u : S) (t : State) (H1 : Heap) (locs1 : List Loc), t.heap = H1 → s.vm.Alike t.vm → post r u → B u t → H.size ≤ H1.size → (∀ q : Nat, q < H.size → ¬ A1 q → H1[q]? = H[q]?) → va_S A0 H0 H1 locs1 → W p l e R s m args below meth c H1 locs1 (cells + mc) (slots + ms) Q (F0 m (pc + 3) ls (.int r :: rest))) : W p l e R s m args below meth c H locs cells slots Q (F0 m pc ls st0) := by
  intro T hT X
  rcases hr T hT X with ⟨v, st₀, t, T', L, h0, X', hL, e1, e2, ⟨⟨r, u, hv, hp, hb⟩, hF⟩, st⟩ | ⟨q, st₀, t, T', L, E, ce, h0, X', hL, e1, e2, ⟨u, hp, hb, hF⟩, hce, hcv, hcl, st⟩
  · cases hv
    obtain ⟨k1, k2, k3⟩ := vx_keep h0 e1 hS hA hf hL hF
    obtain ⟨t2, a1, b1⟩ := kk r u t T'.heap (locs ++ L) e1.symm (by rw [← e2]; exact X'.warmed.alike) hp hb k1 k2 k3 T' rfl X'
    exact ⟨t2, st t2 a1, b1⟩
  · obtain ⟨k1, k2, k3⟩ := vx_keep h0 e1 hS hAX hf hL hF
    obtain ⟨t2, a1, b1⟩ := kx E ce q u t T'.heap (locs ++ L) e1.symm (by rw [← e2]; exact X'.warmed.alike) hp hb k1 k2 k3 (by rw [e1]; exact hce) hcv hcl T' rfl X'
    exact ⟨t2, st.trans a1, b1⟩
theorem vx_calll {S SX : Type} {post : Int64 → S → Prop} {px : SX → Prop} {B : S → State → Prop} {BX : String → SX → State → Prop} {AX : Nat → Prop} (hr : vx_Run p l e R s m args below meth c H locs cells slots mc ms (F0 m pc ls st0) rest (va_Ql post B A1 a) (vx_X px BX AX) free) (hS : va_S A0 H0 H locs) (hA : ∀ q, q < H.size → A1 q → A0 q) (hf : ∀ q, free q → A0 q) (hAX : ∀ q, q < H.size → AX q → A0 q)
    (kx : ∀ (E : String) (ce : Cell) (q9 : Addr) (u : SX) (t : State) (H1 : Heap) (locs1 : List Loc), t.heap = H1 → s.vm.Alike t.vm → px u → BX E u t → H.size ≤ H1.size → (∀ q : Nat, q < H.size → ¬ AX q → H1[q]? = H[q]?) → va_S A0 H0 H1 locs1 → H1[q9]? = some ce → ce.vm = .none → s.vm.findClass E = some ce.cls → vx_W p l e R s m args below meth c H1 locs1 (cells + mc) (slots + ms) Q (F0 m pc ls rest) q9)
    (kk : ∀ (r : Int64) (u : S) (t : State) (H1 : Heap) (locs1 : List Loc), t.heap = H1 → s.vm.Alike t.vm → post r u → B u t → H.size ≤ H1.size → (∀ q : Nat, q < H.size → ¬ A1 q → H1[q]? = H[q]?) → va_S A0 H0 H1 locs1 → W p l e R s m args below meth c H1 locs1 (cells + mc) (slots + ms) Q (F0 m (pc + 3) ls (.long r :: rest))) : W p l e R s m args below meth c H locs cells slots Q (F0 m pc ls st0) := by
  intro T hT X
  rcases hr T hT X with ⟨v, st₀, t, T', L, h0, X', hL, e1, e2, ⟨⟨r, u, hv, hp, hb⟩, hF⟩, st⟩ | ⟨q, st₀, t, T', L, E, ce, h0, X', hL, e1, e2, ⟨u, hp, hb, hF⟩, hce, hcv, hcl, st⟩
  · cases hv
    obtain ⟨k1, k2, k3⟩ := vx_keep h0 e1 hS hA hf hL hF
    obtain ⟨t2, a1, b1⟩ := kk r u t T'.heap (locs ++ L) e1.symm (by rw [← e2]; exact X'.warmed.alike) hp hb k1 k2 k3 T' rfl X'
    exact ⟨t2, st t2 a1, b1⟩
  · obtain ⟨k1, k2, k3⟩ := vx_keep h0 e1 hS hAX hf hL hF
    obtain ⟨t2, a1, b1⟩ := kx E ce q u t T'.heap (locs ++ L) e1.symm (by rw [← e2]; exact X'.warmed.alike) hp hb k1 k2 k3 (by rw [e1]; exact hce) hcv hcl T' rfl X'
    exact ⟨t2, st.trans a1, b1⟩
theorem vx_callf {S SX : Type} {post : UInt32 → S → Prop} {px : SX → Prop} {B : S → State → Prop} {BX : String → SX → State → Prop} {AX : Nat → Prop} (hr : vx_Run p l e R s m args below meth c H locs cells slots mc ms (F0 m pc ls st0) rest (va_Qf post B A1 a) (vx_X px BX AX) free) (hS : va_S A0 H0 H locs) (hA : ∀ q, q < H.size → A1 q → A0 q) (hf : ∀ q, free q → A0 q) (hAX : ∀ q, q < H.size → AX q → A0 q)
    (kx : ∀ (E : String) (ce : Cell) (q9 : Addr) (u : SX) (t : State) (H1 : Heap) (locs1 : List Loc), t.heap = H1 → s.vm.Alike t.vm → px u → BX E u t → H.size ≤ H1.size → (∀ q : Nat, q < H.size → ¬ AX q → H1[q]? = H[q]?) → va_S A0 H0 H1 locs1 → H1[q9]? = some ce → ce.vm = .none → s.vm.findClass E = some ce.cls → vx_W p l e R s m args below meth c H1 locs1 (cells + mc) (slots + ms) Q (F0 m pc ls rest) q9)
    (kk : ∀ (r : UInt32) (u : S) (t : State) (H1 : Heap) (locs1 : List Loc), t.heap = H1 → s.vm.Alike t.vm → post r u → B u t → H.size ≤ H1.size → (∀ q : Nat, q < H.size → ¬ A1 q → H1[q]? = H[q]?) → va_S A0 H0 H1 locs1 → W p l e R s m args below meth c H1 locs1 (cells + mc) (slots + ms) Q (F0 m (pc + 3) ls (.float r :: rest))) : W p l e R s m args below meth c H locs cells slots Q (F0 m pc ls st0) := by
  intro T hT X
  rcases hr T hT X with ⟨v, st₀, t, T', L, h0, X', hL, e1, e2, ⟨⟨r, u, hv, hp, hb⟩, hF⟩, st⟩ | ⟨q, st₀, t, T', L, E, ce, h0, X', hL, e1, e2, ⟨u, hp, hb, hF⟩, hce, hcv, hcl, st⟩
  · cases hv
    obtain ⟨k1, k2, k3⟩ := vx_keep h0 e1 hS hA hf hL hF
    obtain ⟨t2, a1, b1⟩ := kk r u t T'.heap (locs ++ L) e1.symm (by rw [← e2]; exact X'.warmed.alike) hp hb k1 k2 k3 T' rfl X'
    exact ⟨t2, st t2 a1, b1⟩
  · obtain ⟨k1, k2, k3⟩ := vx_keep h0 e1 hS hAX hf hL hF
    obtain ⟨t2, a1, b1⟩ := kx E ce q u t T'.heap (locs ++ L) e1.symm (by rw [← e2]; exact X'.warmed.alike) hp hb k1 k2 k3 (by rw [e1]; exact hce) hcv hcl T' rfl X'
    exact ⟨t2, st.trans a1, b1⟩
theorem vx_calld {S SX : Type} {post : UInt64 → S → Prop} {px : SX → Prop} {B : S → State → Prop} {BX : String → SX → State → Prop} {AX : Nat → Prop} (hr : vx_Run p l e R s m args below meth c H locs cells slots mc ms (F0 m pc ls st0) rest (va_Qd post B A1 a) (vx_X px BX AX) free) (hS : va_S A0 H0 H locs) (hA : ∀ q, q < H.size → A1 q → A0 q) (hf : ∀ q, free q → A0 q) (hAX : ∀ q, q < H.size → AX q → A0 q)
    (kx : ∀ (E : String) (ce : Cell) (q9 : Addr) (u : SX) (t : State) (H1 : Heap) (locs1 : List Loc), t.heap = H1 → s.vm.Alike t.vm → px u → BX E u t → H.size ≤ H1.size → (∀ q : Nat, q < H.size → ¬ AX q → H1[q]? = H[q]?) → va_S A0 H0 H1 locs1 → H1[q9]? = some ce → ce.vm = .none → s.vm.findClass E = some ce.cls → vx_W p l e R s m args below meth c H1 locs1 (cells + mc) (slots + ms) Q (F0 m pc ls rest) q9)
    (kk : ∀ (r : UInt64) (u : S) (t : State) (H1 : Heap) (locs1 : List Loc), t.heap = H1 → s.vm.Alike t.vm → post r u → B u t → H.size ≤ H1.size → (∀ q : Nat, q < H.size → ¬ A1 q → H1[q]? = H[q]?) → va_S A0 H0 H1 locs1 → W p l e R s m args below meth c H1 locs1 (cells + mc) (slots + ms) Q (F0 m (pc + 3) ls (.double r :: rest))) : W p l e R s m args below meth c H locs cells slots Q (F0 m pc ls st0) := by
  intro T hT X
  rcases hr T hT X with ⟨v, st₀, t, T', L, h0, X', hL, e1, e2, ⟨⟨r, u, hv, hp, hb⟩, hF⟩, st⟩ | ⟨q, st₀, t, T', L, E, ce, h0, X', hL, e1, e2, ⟨u, hp, hb, hF⟩, hce, hcv, hcl, st⟩
  · cases hv
    obtain ⟨k1, k2, k3⟩ := vx_keep h0 e1 hS hA hf hL hF
    obtain ⟨t2, a1, b1⟩ := kk r u t T'.heap (locs ++ L) e1.symm (by rw [← e2]; exact X'.warmed.alike) hp hb k1 k2 k3 T' rfl X'
    exact ⟨t2, st t2 a1, b1⟩
  · obtain ⟨k1, k2, k3⟩ := vx_keep h0 e1 hS hAX hf hL hF
    obtain ⟨t2, a1, b1⟩ := kx E ce q u t T'.heap (locs ++ L) e1.symm (by rw [← e2]; exact X'.warmed.alike) hp hb k1 k2 k3 (by rw [e1]; exact hce) hcv hcl T' rfl X'
    exact ⟨t2, st.trans a1, b1⟩
theorem vx_callv {S SX : Type} {post : S → Prop} {px : SX → Prop} {B : S → State → Prop} {BX : String → SX → State → Prop} {AX : Nat → Prop} (hr : vx_Run p l e R s m args below meth c H locs cells slots mc ms (F0 m pc ls st0) rest (va_Qv post B A1 a) (vx_X px BX AX) free) (hS : va_S A0 H0 H locs) (hA : ∀ q, q < H.size → A1 q → A0 q) (hf : ∀ q, free q → A0 q) (hAX : ∀ q, q < H.size → AX q → A0 q)
    (kx : ∀ (E : String) (ce : Cell) (q9 : Addr) (u : SX) (t : State) (H1 : Heap) (locs1 : List Loc), t.heap = H1 → s.vm.Alike t.vm → px u → BX E u t → H.size ≤ H1.size → (∀ q : Nat, q < H.size → ¬ AX q → H1[q]? = H[q]?) → va_S A0 H0 H1 locs1 → H1[q9]? = some ce → ce.vm = .none → s.vm.findClass E = some ce.cls → vx_W p l e R s m args below meth c H1 locs1 (cells + mc) (slots + ms) Q (F0 m pc ls rest) q9)
    (kk : ∀ (u : S) (t : State) (H1 : Heap) (locs1 : List Loc), t.heap = H1 → s.vm.Alike t.vm → post u → B u t → H.size ≤ H1.size → (∀ q : Nat, q < H.size → ¬ A1 q → H1[q]? = H[q]?) → va_S A0 H0 H1 locs1 → W p l e R s m args below meth c H1 locs1 (cells + mc) (slots + ms) Q (F0 m (pc + 3) ls (rest))) : W p l e R s m args below meth c H locs cells slots Q (F0 m pc ls st0) := by
  intro T hT X
  rcases hr T hT X with ⟨v, st₀, t, T', L, h0, X', hL, e1, e2, ⟨⟨u, hv, hp, hb⟩, hF⟩, st⟩ | ⟨q, st₀, t, T', L, E, ce, h0, X', hL, e1, e2, ⟨u, hp, hb, hF⟩, hce, hcv, hcl, st⟩
  · cases hv
    obtain ⟨k1, k2, k3⟩ := vx_keep h0 e1 hS hA hf hL hF
    obtain ⟨t2, a1, b1⟩ := kk u t T'.heap (locs ++ L) e1.symm (by rw [← e2]; exact X'.warmed.alike) hp hb k1 k2 k3 T' rfl X'
    exact ⟨t2, st t2 a1, b1⟩
  · obtain ⟨k1, k2, k3⟩ := vx_keep h0 e1 hS hAX hf hL hF
    obtain ⟨t2, a1, b1⟩ := kx E ce q u t T'.heap (locs ++ L) e1.symm (by rw [← e2]; exact X'.warmed.alike) hp hb k1 k2 k3 (by rw [e1]; exact hce) hcv hcl T' rfl X'
    exact ⟨t2, st.trans a1, b1⟩
/-- caught by the row x of this method's table; the rows ahead don't take it -/
theorem vx_catch {own name : String} {E : String} {ce : Cell} {q : Addr} (hown : s.vm.findClass own = some m.cls) (pre : List ExceptionTableEntry) (x : ExceptionTableEntry) (suf : List ExceptionTableEntry) (hsplit : c.exceptionTable.toList = pre ++ x :: suf)
    (hpass : ∀ z ∈ pre, covers z pc = false ∨ (z.catchType ≠ 0 ∧ ∃ nm : String, (Cond.classLink own z.catchType nm).before args s = true ∧ va_Nc E nm s)) (hx : covers x pc = true) (h0 : x.catchType ≠ 0)
    (hlink : (Cond.classLink own x.catchType name).before args s = true) (hcast : (Cond.castable E name).before args s = true) (hcell : H[q]? = some ce) (hv : ce.vm = .none) (hcl : s.vm.findClass E = some ce.cls)
    (kk : W p l e R s m args below meth c H locs cells slots Q (F0 m x.handlerPc ls [.ref q])) : vx_W p l e R s m args below meth c H locs cells slots Q (F0 m pc ls rest) q := by
  intro T hT X
  have hpl : e.platform.magicAccessors = ({} : Platform).magicAccessors := by rw [X.admits.platform]
  obtain ⟨c3, c4, hc3, hc4, hasg⟩ := Cond.castable_spec hcast
  cases Option.some.inj (hc3.symm.trans hcl)
  obtain ⟨c5, hc5, hcl5⟩ := Cond.classLink_spec hown hlink e.platform hpl
  cases Option.some.inj (hc4.symm.trans hc5)
  obtain ⟨vm', X', st⟩ := Jvm.Stand.thenCaughtThrough X q (g := F0 m pc ls rest) rfl (Steps.refl _) (by rw [hT]; exact hcell) (by rw [hv]; rfl) (by obtain ⟨k9, h9, -⟩ := Vm.findClass_spec hcl; exact ⟨k9, h9⟩) pre x suf hsplit
    (fun z hz => by
      rcases hpass z hz with h | ⟨hz0, nm, hl1, hn1⟩
      · exact Or.inl h
      · obtain ⟨c6, hc6, hcl6⟩ := Cond.classLink_spec hown hl1 e.platform hpl
        obtain ⟨a8, b8, h1, h2, h3⟩ := hn1
        cases Option.some.inj (h1.symm.trans hcl)
        cases Option.some.inj (h2.symm.trans hc6)
        exact Or.inr ⟨hz0, _, hcl6, h3⟩) hx (Or.inr ⟨h0, c4, hcl5, hasg⟩)
  obtain ⟨t, a1, b1⟩ := kk (T.setVm vm') hT X'
  exact ⟨t, st.trans a1, b1⟩
end Rows
section Ends
variable {p : Program} {l : Launch} {e : Env} {R : Room} {s : State} {m : MethodId} {args : Array Value} {below : List Frame} {meth : Method} {c : Code} {H : Heap} {locs : List Loc} {cells slots : Nat} {Q : State → Prop}
variable {mc ms : Nat} {free : Addr → Prop} {A0 A1 : Nat → Prop} {H0 : Heap} {a : Array Value} {ls : Array Slot} {st0 rest : List Value}
variable {Qc : Array Value → State → Outcome → State → Prop} {XC : String → State → State → Prop}
/-- what a body that may throw owes at its end -/
def vx_MQ (below : List Frame) (Qc : Array Value → State → Outcome → State → Prop) (XC : String → State → State → Prop) (a : Array Value) (s : State) (mc ms : Nat) (free : Addr → Prop) : State → Prop := fun t =>
  ∃ o, t.status = .running ∧ Ended t below o ∧ vx_Q Qc XC mc ms free a s o t
theorem vx_ret {g : JFrame} {mc ms : Nat} (k : W p l e R s m args below meth c H locs cells slots (MQ below Qc args s mc ms free) g) : W p l e R s m args below meth c H locs cells slots (vx_MQ below Qc XC args s mc ms free) g := by
  intro T hT X
  obtain ⟨t, a1, o, b1, b2, b3, b4⟩ := k T hT X
  exact ⟨t, a1, o, b1, b2, Or.inl ⟨b3, b4⟩⟩
/-- not caught here: it goes on to the caller -/
theorem vx_widen {g : JFrame} {q : Addr} {k n : Nat} (h1 : cells ≤ k) (h2 : slots ≤ n) (kk : vx_W p l e R s m args below meth c H locs k n Q g q) : vx_W p l e R s m args below meth c H locs cells slots Q g q := fun T hT X => kk T hT (stand_widen X h1 h2)
theorem vx_out {pc : Nat} {E : String} {ce : Cell} {q : Addr} {mc ms : Nat} (hout : ∀ x ∈ c.exceptionTable.toList, covers x pc = false) (hlocks : meth.locks = false) (hcell : H[q]? = some ce) (hv : ce.vm = .none) (hcl : s.vm.findClass E = some ce.cls)
    (hx : ∀ t : State, t.heap = H → s.vm.Alike t.vm → XC E s t) (hf : ∀ z ∈ locs, free z.base) (hc : cells ≤ mc) (hs : slots ≤ ms) :
    vx_W p l e R s m args below meth c H locs cells slots (vx_MQ below Qc XC args s mc ms free) (F0 m pc ls rest) q := by
  intro T hT X
  obtain ⟨st1, hrun, hend, hW, hsm⟩ := X.leaveThrown q (g := F0 m pc ls rest) rfl rfl rfl hout hlocks
  have hcell9 : (T.setFrames (.throwing q :: below)).heap[q]? = some ce := by
    show T.heap[q]? = some ce
    rw [hT]; exact hcell
  exact ⟨_, st1, .threw q, hrun, hend, Or.inr ⟨q, rfl, E, ce, locs, hx _ hT hW.alike, hcell9, hv, hcl, hW, hsm.mono hc hs, hf⟩⟩
theorem vx_frame {U : State} {k n : Nat} (h : s.sameButNew ({ U with vm := s.vm } : State) locs k n) : s.heap.size ≤ U.heap.size ∧ ∀ q : Nat, q < s.heap.size → (∀ z ∈ locs, z.base ≠ q) → U.heap[q]? = s.heap[q]? := by
  obtain ⟨-, h2, -, -, -, h6⟩ := h
  refine ⟨h2, fun q hq hz => ?_⟩
  obtain ⟨c9, e1, e2, e3, e4⟩ := h6 q _ (Array.getElem?_eq_getElem hq)
  have hs : c9.slots = (s.heap[q]).slots := Array.ext_getElem? fun i => e4 i fun hm => hz _ hm rfl
  have h9 : c9 = s.heap[q] := by
    rw [hs] at e2
    exact e2
  have e5 : U.heap[q]? = some c9 := e1
  rw [e5, h9, Array.getElem?_eq_getElem hq]
/-- the words of a throw but the four that speak of the heap -/
def vx_no (w : Cond) : Bool := decide (w ≠ .isRef (.static Bundle.tN "UNASSIGNED_STACK" Bundle.steD)) && decide (w ≠ .isRef (.static Bundle.tN "SUPPRESSED_SENTINEL" Bundle.listD)) && decide (w ≠ .laysStatic Bundle.tN "UNASSIGNED_STACK" Bundle.steD) && decide (w ≠ .laysStatic Bundle.tN "SUPPRESSED_SENTINEL" Bundle.listD)
def vx_at0 (own : String) (ic : Nat) (X : String) (names : List String) : List Cond := (Bundle.ownAtoms0 own ic X names).filter vx_no
def vx_atS (own : String) (ic : Nat) (X : String) (names : List String) : List Cond := (Bundle.ownAtoms own ic X names).filter vx_no
/-- a word that the tables alone decide, or a good one -/
def vx_ot (w : Cond) : Bool := w.onTables || goodWord w
theorem vx_ot_at {args a' : Array Value} {s U : State} {w : Cond} (hW : s.WarmedH U.vm) (hvm : s.vm = U.vm) (hg : vx_ot w = true) (h : w.before args s = true) : w.before a' U = true := by
  simp only [vx_ot, Bool.or_eq_true] at hg
  rcases hg with hg | hg
  · exact va_tabs hg hvm h
  · exact word_at hW (good_of_word hg) h
/-- a list's words: the good ones out of the method's own list, the others by premises of their own -/
theorem vx_hat {args : Array Value} {s : State} {L B : List Cond} (h1 : ∀ w ∈ L.filter goodWord, w.before args s = true) (h2 : ∀ w ∈ L.filter (fun w => !goodWord w), w ∈ B) (h3 : ∀ w ∈ B, w.before args s = true) : ∀ w ∈ L, w.before args s = true := by
  intro w hw
  by_cases g : goodWord w = true
  · exact h1 w (List.mem_filter.mpr ⟨hw, g⟩)
  · refine h3 w (h2 w (List.mem_filter.mpr ⟨hw, ?_⟩))
    show (!goodWord w) = true
    cases hgw : goodWord w
    · rfl
    · exact absurd hgw g
theorem vx_c {args : Array Value} {s : State} {w : Cond} {B : List Cond} (h : w.before args s = true) (t : ∀ w ∈ B, w.before args s = true) : ∀ w' ∈ w :: B, w'.before args s = true := fun w' h' => (List.mem_cons.mp h').elim (fun e => by rw [e]; exact h) (t w')
theorem vx_n {args : Array Value} {s : State} : ∀ w ∈ ([] : List Cond), w.before args s = true := fun _ h => nomatch h
theorem vx_own {args : Array Value} {s : State} {L : List Cond} (h1 : ∀ w ∈ L.filter vx_no, w.before args s = true)
    (hU : (Cond.isRef (.static Bundle.tN "UNASSIGNED_STACK" Bundle.steD)).before args s = true) (hN : (Cond.isRef (.static Bundle.tN "SUPPRESSED_SENTINEL" Bundle.listD)).before args s = true)
    (lU : (Cond.laysStatic Bundle.tN "UNASSIGNED_STACK" Bundle.steD).before args s = true) (lN : (Cond.laysStatic Bundle.tN "SUPPRESSED_SENTINEL" Bundle.listD).before args s = true) : ∀ w ∈ L, w.before args s = true := by
  intro w hw
  by_cases e1 : w = .isRef (.static Bundle.tN "UNASSIGNED_STACK" Bundle.steD)
  · rw [e1]; exact hU
  · by_cases e2 : w = .isRef (.static Bundle.tN "SUPPRESSED_SENTINEL" Bundle.listD)
    · rw [e2]; exact hN
    · by_cases e3 : w = .laysStatic Bundle.tN "UNASSIGNED_STACK" Bundle.steD
      · rw [e3]; exact lU
      · by_cases e4 : w = .laysStatic Bundle.tN "SUPPRESSED_SENTINEL" Bundle.listD
        · rw [e4]; exact lN
        · exact h1 w (List.mem_filter.mpr ⟨hw, by unfold vx_no; rw [decide_eq_true e1, decide_eq_true e2, decide_eq_true e3, decide_eq_true e4]; rfl⟩)
/-- where a static field lies, its class's statics cell in H -/
def vx_L (C n d : String) (A : Nat → Prop) (U : State) (H : Heap) : Prop := ∃ (c : ClassId) (k : Class) (i : Nat) (f : Field) (a : Nat) (cell : Cell), U.vm.findClass C = some c ∧ U.fieldFound? C n d = some (c, k, i, f) ∧ f.isStatic = true ∧ k.statics = some a ∧ H[a]? = some cell ∧ cell.vm.isStatics = true ∧ cell.cls = c ∧ f.slot < cell.slots.size ∧ k.staticTypes[f.slot]? = some f.type ∧ ¬ A a
theorem vx_L.moved {C n d : String} {A : Nat → Prop} {u U : State} {H : Heap} (hvm : u.vm.Alike U.vm) (h : vx_L C n d A u H) : vx_L C n d A U H := by
  obtain ⟨c, k, i, f, a, cell, h1, h2, h3, h4, h5, h6, h7, h8, h9, h10⟩ := h
  obtain ⟨k', hi', he⟩ := State.fieldFound?_setVm hvm h2
  exact ⟨c, k', i, f, a, cell, by rw [hvm.findClass]; exact h1, hi', h3, by rw [he]; exact h4, h5, h6, h7, h8, by rw [he]; exact h9, h10⟩
theorem vx_L.kept {C n d : String} {A : Nat → Prop} {U : State} {H H1 : Heap} (h : vx_L C n d A U H) (hq : ∀ a : Nat, a < H.size → ¬ A a → H1[a]? = H[a]?) : vx_L C n d A U H1 := by
  obtain ⟨c, k, i, f, a, cell, h1, h2, h3, h4, h5, h6, h7, h8, h9, h10⟩ := h
  exact ⟨c, k, i, f, a, cell, h1, h2, h3, h4, by rw [hq a (Array.getElem?_eq_some_iff.mp h5).1 h10]; exact h5, h6, h7, h8, h9, h10⟩
theorem vx_L.narrow {C n d : String} {A B : Nat → Prop} {U : State} {H : Heap} (h : vx_L C n d A U H) (hAB : ∀ q, B q → A q) : vx_L C n d B U H := by
  obtain ⟨c, k, i, f, a, cell, h1, h2, h3, h4, h5, h6, h7, h8, h9, h10⟩ := h
  exact ⟨c, k, i, f, a, cell, h1, h2, h3, h4, h5, h6, h7, h8, h9, fun z => h10 (hAB _ z)⟩
theorem vx_L.word {C n d : String} {A : Nat → Prop} {s : State} {args : Array Value} (h : vx_L C n d A s s.heap) : (Cond.laysStatic C n d).before args s = true := by
  obtain ⟨c, k, i, f, a, cell, h1, h2, h3, h4, h5, h6, h7, h8, h9, -⟩ := h
  show (Cond.laysStatic C n d).holds args s none s [] = true
  exact Cond.laysStatic_of h1 h2 h3 h4 h5 h6 h7 h8 h9
/-- .. and what it holds: null or some reference -/
def vx_Zq (C n d : String) (A : Nat → Prop) (U : State) (H : Heap) : Prop := va_Zq C n d A U H ∧ vx_L C n d A U H
theorem vx_Zq.moved {C n d : String} {A : Nat → Prop} {u U : State} {H : Heap} (hvm : u.vm.Alike U.vm) (h : vx_Zq C n d A u H) : vx_Zq C n d A U H := ⟨va_Zq.moved hvm h.1, vx_L.moved hvm h.2⟩
theorem vx_Zq.kept {C n d : String} {A : Nat → Prop} {U : State} {H H1 : Heap} (h : vx_Zq C n d A U H) (hq : ∀ a : Nat, a < H.size → ¬ A a → H1[a]? = H[a]?) : vx_Zq C n d A U H1 := ⟨va_Zq.kept h.1 hq, vx_L.kept h.2 hq⟩
theorem vx_Zq.narrow {C n d : String} {A B : Nat → Prop} {U : State} {H : Heap} (h : vx_Zq C n d A U H) (hAB : ∀ q, B q → A q) : vx_Zq C n d B U H := ⟨va_Zq.narrow h.1 hAB, vx_L.narrow h.2 hAB⟩
theorem vx_Zqof {args : Array Value} {s : State} {C n d : String} {A : Nat → Prop} (hl : (Cond.laysStatic C n d).before args s = true) (hini : (Cond.initialized C).before args s = true) (h : (Cond.isRef (.static C n d)).before args s = true) (hA : ∀ a : Nat, a < s.heap.size → ¬ A a) : vx_Zq C n d A s s.heap := by
  refine ⟨va_Zqof hl hini h hA, ?_⟩
  obtain ⟨c, k, i, f, a, cell, h1, h2, h3, h4, h5, h6, h7, h8, h9⟩ := Cond.laysStatic_spec hl
  exact ⟨c, k, i, f, a, cell, h1, h2, h3, h4, h5, h6, h7, h8, h9, hA a (Array.getElem?_eq_some_iff.mp h5).1⟩
theorem vx_isRef {C n d : String} {v : Value} {A : Nat → Prop} {s : State} {args : Array Value} (h : va_Z C n d v A s s.heap) (hv : v.isRef = true) : (Cond.isRef (.static C n d)).before args s = true := by
  obtain ⟨cf, kf, fi, f, a, cell, h1, h2, h3, h4, h5, h6, h7, -⟩ := h
  have he : (Term.static C n d).eval args s none [] s = some v := by
    simp [Term.eval, State.fieldNamed?, h1, h2, h4, h5, h6, h7]
  simp only [Cond.before, Cond.holds, Cond.value, he]
  cases v <;> simp_all [Value.isRef]
theorem vx_isRefq {C n d : String} {A : Nat → Prop} {s : State} {args : Array Value} (h : va_Zq C n d A s s.heap) : (Cond.isRef (.static C n d)).before args s = true := by
  rcases h with h | ⟨t, h⟩
  · exact vx_isRef h rfl
  · exact vx_isRef h rfl
/-- the same frame, seen from here: as if the method were called anew in this heap -/
theorem vx_rebase {T : State} (X : Stand p l e R s m args below meth c T locs cells slots) {R' : Room} (hf : R'.frames ≤ R.frames) (hl : R'.locals ≤ R.locals) (hc : cells + R'.cells ≤ R.cells) (hs : slots + R'.slots ≤ R.slots) :
    Stand p l e R' ((T.setVm s.vm).setFrames (.invoking m args :: below)) m args below meth c T [] 0 0 := by
  have htop : (T.setVm s.vm).topJava?.isSome := X.here.top
  have hF : ((T.setVm s.vm).setFrames (.invoking m args :: below)).frames = .invoking m args :: below := State.frames_setFrames _ (State.cur_lt_of_top htop)
  obtain ⟨g₀, hg0⟩ := Option.isSome_iff_exists.mp htop
  obtain ⟨r, hr⟩ := State.topJava?_eq_some.mp hg0
  have hl9 : e.platform.stackLimits (T.setVm s.vm).me = e.platform.stackLimits s.me := X.limits
  have hb9 : (T.setVm s.vm).me.stackBytes = s.me.stackBytes := X.bytes
  refine ⟨X.admits, X.cas, X.clock, hF, ?_, X.hears, X.method, X.code, X.here, X.tail, X.warmed, ?_, ?_, ?_⟩
  · have h := X.room
    have hU : ((T.setVm s.vm).setFrames (.invoking m args :: below)).localsInUse = s.localsInUse := by
      rw [State.localsInUse_invoking hF (meth := meth) (c := c) X.method X.code, State.localsInUse_invoking X.frames X.method X.code]
    simp only [State.hasRoom, Bool.and_eq_true, decide_eq_true_eq] at h ⊢
    obtain ⟨⟨⟨⟨h1, h2, h3, h4, h5, h6⟩, h7⟩, h8⟩, h9⟩ := h
    rw [X.frames, List.length_cons] at h2 h3
    have q1 := X.heapSize
    have q2 := X.used
    simp only [hF, hU, List.length_cons, State.stackLimits_setFrames, State.stackBytes_setFrames, hl9, hb9]
    refine ⟨⟨⟨⟨by omega, by omega, by omega, by omega, by omega, h6⟩, ?_⟩, ?_⟩, X.book⟩
    · show T.heap.size + R'.cells ≤ e.platform.maxCells
      omega
    · show T.slotsUsed + R'.slots ≤ e.platform.maxSlots
      omega
  · rw [State.stackLimits_setFrames]; rfl
  · rw [State.stackBytes_setFrames]; rfl
  · refine ⟨?_, Nat.le_refl _, Nat.le_refl _, ?_, ?_, fun a c9 h9 => ⟨c9, h9, rfl, rfl, fun _ _ => rfl⟩⟩
    · obtain ⟨t, ht, -⟩ := State.frames_cons hr
      show T.setVm s.vm = { ((T.setVm s.vm).setFrames (.invoking m args :: below)).setFrames (T.setVm s.vm).frames with heap := T.heap, slotsUsed := T.slotsUsed }
      rw [State.setFrames_setFrames, State.setFrames_self ht]
      rfl
    · show T.slotsUsed = T.slotsUsed + ((T.heap.toList.drop T.heap.size).map (·.slots.size)).sum
      rw [List.drop_eq_nil_of_le (Nat.le_of_eq Array.length_toList)]
      rfl
    · show ((T.heap.toList.drop T.heap.size).map (·.slots.size)).sum ≤ 0
      rw [List.drop_eq_nil_of_le (Nat.le_of_eq Array.length_toList)]
      exact Nat.le_refl _
/-- 'throw new E()': new; dup; invokespecial; athrow -/
theorem vx_throw0 {cc : ByteArray} {pc : Nat} (hexec : p.tables.exec = Jvm.exec) (hb : c.code = cc) (hl : l.stackTraces = false) {own cls : String} {names : List String} {ik ic mc ms : Nat} {A : Nat → Prop}
    (hown : s.vm.findClass own = some m.cls) (hcls : Bundle.fit cls = true) (hnames : ∀ n ∈ names, Bundle.fit n = true)
    (hk : (Cond.classLink own ik cls).before args s = true) (hini : (Cond.initialized cls).before args s = true) (hat : ∀ w ∈ vx_at0 own ic cls names, w.before args s = true)
    (hgood : ∀ w ∈ Cond.classLink own ik cls :: Cond.initialized cls :: vx_at0 own ic cls names, vx_ot w = true)
    (hU : vx_Zq Bundle.tN "UNASSIGNED_STACK" Bundle.steD A s s.heap) (hN : vx_Zq Bundle.tN "SUPPRESSED_SENTINEL" Bundle.listD A s s.heap) (hS : va_S A s.heap H locs) (hsize : ls.size = c.maxLocals)
    (d0 : decode cc pc = .ok (.new ik, 3)) (d3 : decode cc (pc + 3) = .ok (.dup, 1)) (d4 : decode cc (pc + 4) = .ok (.invokespecial ic, 3)) (d7 : decode cc (pc + 7) = .ok (.athrow, 1))
    (hout : ∀ x ∈ c.exceptionTable.toList, covers x (pc + 7) = false)
    (hRframes : names.length + 3 < R.frames) (hRlocals : (rest.map fun v => v.category).sum + (13 * (names.length + 1) + 42) ≤ R.locals) (hRcells : cells + 1 ≤ R.cells) (hRslots : slots + 6 ≤ R.slots) (hlocks : meth.locks = false)
    (hx : ∀ t : State, s.vm.Alike t.vm → H.size ≤ t.heap.size → (∀ q : Nat, q < H.size → t.heap[q]? = H[q]?) → XC cls s t)
    (hf : ∀ z ∈ locs, free z.base) (hc : cells + 1 ≤ mc) (hs : slots + 6 ≤ ms) :
    W p l e R s m args below meth c H locs cells slots (vx_MQ below Qc XC args s mc ms free) (F0 m pc ls rest) := by
  intro T hT X
  have htr : e.platform.stackTraces = false := (show e.platform.stackTraces = l.stackTraces by rw [X.admits.platform]).trans hl
  have Y := vx_rebase X (R' := { frames := R.frames, locals := R.locals, cells := 1, slots := 6 }) (Nat.le_refl _) (Nat.le_refl _) hRcells hRslots
  obtain ⟨s', hA⟩ : ∃ z, z = (T.setVm s.vm).setFrames (.invoking m args :: below) := ⟨_, rfl⟩
  rw [← hA] at Y
  have hvm : s'.vm = s.vm := by rw [hA]; rfl
  have hhp : s'.heap = H := by rw [hA]; exact hT
  have hW0 : s.WarmedH s'.vm := by rw [hvm]; exact State.WarmedH.refl s
  have hat' : ∀ w ∈ vx_at0 own ic cls names, w.before args s' = true := fun w hw => vx_ot_at hW0 hvm.symm (hgood w (List.mem_cons_of_mem _ (List.mem_cons_of_mem _ hw))) (hat w hw)
  have hk' : (Cond.classLink own ik cls).before args s' = true := vx_ot_at hW0 hvm.symm (hgood _ List.mem_cons_self) hk
  have hini' : (Cond.initialized cls).before args s' = true := vx_ot_at hW0 hvm.symm (hgood _ (List.mem_cons_of_mem _ List.mem_cons_self)) hini
  have hU' : vx_Zq Bundle.tN "UNASSIGNED_STACK" Bundle.steD A s' s'.heap := by rw [hhp]; exact vx_Zq.moved hW0.alike (hU.kept hS.2.1)
  have hN' : vx_Zq Bundle.tN "SUPPRESSED_SENTINEL" Bundle.listD A s' s'.heap := by rw [hhp]; exact vx_Zq.moved hW0.alike (hN.kept hS.2.1)
  have h : ∀ w ∈ Bundle.ownAtoms0 own ic cls names, w.before args s' = true := vx_own hat' (vx_isRefq hU'.1) (vx_isRefq hN'.1) hU'.2.word hN'.2.word
  have hown' : s'.vm.findClass own = some m.cls := by rw [hvm]; exact hown
  have hins : (Cond.instantiable cls 6).before args s' = true := h _ (by simp [Bundle.ownAtoms0])
  obtain ⟨vm₁, cX, kX, hfX, hkX, -, -, X₁, st1⟩ := Y.newCold hexec (own := own) (C := cls) (index := ik) (n := 6) hown' hk' hins hini'
    (g := F0 m pc ls rest) rfl (by rw [hb]; exact d0) (Nat.le_refl _) (Nat.le_refl _)
  generalize hT1 : (T.setVm vm₁).pushCell { cls := cX, slots := kX.instanceTypes.map defaultValue, vm := .none } = T1 at X₁ st1
  have hcat : (Value.ref T.heap.size).category = 1 := rfl
  have hcellA : T1.heap[T.heap.size]? = some (freshCell cX kX) := by rw [← hT1]; exact State.heap_pushCell_size _ _
  have d3' : decode c.code (pc + 3) = .ok (.dup, 1) := by rw [hb]; exact d3
  obtain ⟨U, hsteps, hrun, hend, hW, hsame, ce, hce, hO⟩ := X₁.ctorThrow0 hexec htr (own := own) (cls := cls) (names := names) (ic := ic) hown' hcls hnames h (fun x hx => nomatch hx) hfX hkX hcellA (by rw [hhp, hT]; exact Nat.le_refl _)
    (g := { method := m, pc := pc + 4, locals := ls, stack := .ref T.heap.size :: .ref T.heap.size :: rest, locked := none }) rfl hsize rfl rfl (rest := rest) rfl
    (by rw [hb]; exact d4) (by rw [hb]; exact d7) hout hRframes (by simp only [List.map_cons, List.sum_cons, hcat]; omega) hlocks
  obtain ⟨f1, f2⟩ := vx_frame hsame
  rw [hhp] at f1 f2
  have hWs : s.WarmedH U.vm := State.WarmedH.trans hW0 hW
  have hcl : s.vm.findClass cls = some ce.cls := by
    have h9 := hO.cls
    rw [hvm] at h9
    exact h9
  have hall : s.sameButNew ({ U with vm := s.vm } : State) locs mc ms := by
    subst hA
    obtain ⟨e1, e2⟩ := hsame
    rw [State.setFrames_setFrames] at e1
    have h2 : (T.setVm s.vm).sameButNew ({ U with vm := s.vm } : State) [] (0 + 1) (0 + 6) := ⟨e1, e2⟩
    have h3 := X.same.trans h2
    rw [List.append_nil] at h3
    exact h3.mono hc hs
  refine ⟨U, ?_, .threw T.heap.size, hrun, hend, Or.inr ⟨T.heap.size, rfl, cls, ce, locs, hx U hWs.alike f1 (fun q hq => f2 q hq (fun z hz => nomatch hz)), hce, hO.vm, hcl, hWs, hall, hf⟩⟩
  refine st1 _ ?_
  show Steps p.tables e below (T1.setTop { method := m, pc := pc + 3, locals := ls, stack := .ref T.heap.size :: rest, locked := none }) _
  jvm_step X₁.here [X₁.here.top, hexec, d3', Value.category]
  exact hsteps
/-- 'throw new E("text")': new; dup; ldc; invokespecial; athrow -/
theorem vx_throwS {cc : ByteArray} {pc : Nat} (hexec : p.tables.exec = Jvm.exec) (hb : c.code = cc) (hl : l.stackTraces = false) {own cls text : String} {names : List String} {ik is ic mc ms sa : Nat} {A : Nat → Prop}
    (hown : s.vm.findClass own = some m.cls) (hcls : Bundle.fit cls = true) (hnames : ∀ n ∈ names, Bundle.fit n = true)
    (hk : (Cond.classLink own ik cls).before args s = true) (hini : (Cond.initialized cls).before args s = true) (hstr : vk_R own is text sa s) (hat : ∀ w ∈ vx_atS own ic cls names, w.before args s = true)
    (hgood : ∀ w ∈ Cond.classLink own ik cls :: Cond.initialized cls :: vx_atS own ic cls names, vx_ot w = true)
    (hU : vx_Zq Bundle.tN "UNASSIGNED_STACK" Bundle.steD A s s.heap) (hN : vx_Zq Bundle.tN "SUPPRESSED_SENTINEL" Bundle.listD A s s.heap) (hS : va_S A s.heap H locs) (hsize : ls.size = c.maxLocals)
    (d0 : decode cc pc = .ok (.new ik, 3)) (d3 : decode cc (pc + 3) = .ok (.dup, 1)) (d4 : decode cc (pc + 4) = .ok (.ldc is, 2)) (d6 : decode cc (pc + 6) = .ok (.invokespecial ic, 3)) (d9 : decode cc (pc + 9) = .ok (.athrow, 1))
    (hout : ∀ x ∈ c.exceptionTable.toList, covers x (pc + 9) = false)
    (hRframes : names.length + 3 < R.frames) (hRlocals : (rest.map fun v => v.category).sum + (13 * (names.length + 1) + 43) ≤ R.locals) (hRcells : cells + 1 ≤ R.cells) (hRslots : slots + 6 ≤ R.slots) (hlocks : meth.locks = false)
    (hx : ∀ t : State, s.vm.Alike t.vm → H.size ≤ t.heap.size → (∀ q : Nat, q < H.size → t.heap[q]? = H[q]?) → XC cls s t)
    (hf : ∀ z ∈ locs, free z.base) (hc : cells + 1 ≤ mc) (hs : slots + 6 ≤ ms) :
    W p l e R s m args below meth c H locs cells slots (vx_MQ below Qc XC args s mc ms free) (F0 m pc ls rest) := by
  intro T hT X
  have htr : e.platform.stackTraces = false := (show e.platform.stackTraces = l.stackTraces by rw [X.admits.platform]).trans hl
  have Y := vx_rebase X (R' := { frames := R.frames, locals := R.locals, cells := 1, slots := 6 }) (Nat.le_refl _) (Nat.le_refl _) hRcells hRslots
  obtain ⟨s', hA⟩ : ∃ z, z = (T.setVm s.vm).setFrames (.invoking m args :: below) := ⟨_, rfl⟩
  rw [← hA] at Y
  have hvm : s'.vm = s.vm := by rw [hA]; rfl
  have hhp : s'.heap = H := by rw [hA]; exact hT
  have hW0 : s.WarmedH s'.vm := by rw [hvm]; exact State.WarmedH.refl s
  have hat' : ∀ w ∈ vx_atS own ic cls names, w.before args s' = true := fun w hw => vx_ot_at hW0 hvm.symm (hgood w (List.mem_cons_of_mem _ (List.mem_cons_of_mem _ hw))) (hat w hw)
  have hk' : (Cond.classLink own ik cls).before args s' = true := vx_ot_at hW0 hvm.symm (hgood _ List.mem_cons_self) hk
  have hini' : (Cond.initialized cls).before args s' = true := vx_ot_at hW0 hvm.symm (hgood _ (List.mem_cons_of_mem _ List.mem_cons_self)) hini
  have hU' : vx_Zq Bundle.tN "UNASSIGNED_STACK" Bundle.steD A s' s'.heap := by rw [hhp]; exact vx_Zq.moved hW0.alike (hU.kept hS.2.1)
  have hN' : vx_Zq Bundle.tN "SUPPRESSED_SENTINEL" Bundle.listD A s' s'.heap := by rw [hhp]; exact vx_Zq.moved hW0.alike (hN.kept hS.2.1)
  have h : ∀ w ∈ Bundle.ownAtoms own ic cls names, w.before args s' = true := vx_own hat' (vx_isRefq hU'.1) (vx_isRefq hN'.1) hU'.2.word hN'.2.word
  have hown' : s'.vm.findClass own = some m.cls := by rw [hvm]; exact hown
  have hins : (Cond.instantiable cls 6).before args s' = true := h _ (by simp [Bundle.ownAtoms])
  obtain ⟨vm₁, cX, kX, hfX, hkX, -, -, X₁, st1⟩ := Y.newCold hexec (own := own) (C := cls) (index := ik) (n := 6) hown' hk' hins hini'
    (g := F0 m pc ls rest) rfl (by rw [hb]; exact d0) (Nat.le_refl _) (Nat.le_refl _)
  generalize hT1 : (T.setVm vm₁).pushCell { cls := cX, slots := kX.instanceTypes.map defaultValue, vm := .none } = T1 at X₁ st1
  have hcat : (Value.ref T.heap.size).category = 1 := rfl
  have hcellA : T1.heap[T.heap.size]? = some (freshCell cX kX) := by rw [← hT1]; exact State.heap_pushCell_size _ _
  have d3' : decode c.code (pc + 3) = .ok (.dup, 1) := by rw [hb]; exact d3
  have d4' : decode c.code (pc + 4) = .ok (.ldc is, 2) := by rw [hb]; exact d4
  have hstr' : vk_R own is text sa s' := vk_R.warm hW0 hstr
  obtain ⟨U, hsteps, hrun, hend, hW, hsame, ce, hce, hO⟩ := X₁.ctorThrowS hexec htr (own := own) (cls := cls) (names := names) (ic := ic) hown' hcls hnames h (fun x hx => nomatch hx) hfX hkX hcellA (by rw [hhp, hT]; exact Nat.le_refl _) (msg := .ref sa) rfl
    (g := { method := m, pc := pc + 6, locals := ls, stack := .ref sa :: .ref T.heap.size :: .ref T.heap.size :: rest, locked := none }) rfl hsize rfl rfl (rest := rest) rfl
    (by rw [hb]; exact d6) (by rw [hb]; exact d9) hout hRframes (by simp only [List.map_cons, List.sum_cons, hcat]; omega) hlocks
  obtain ⟨f1, f2⟩ := vx_frame hsame
  rw [hhp] at f1 f2
  have hWs : s.WarmedH U.vm := State.WarmedH.trans hW0 hW
  have hcl : s.vm.findClass cls = some ce.cls := by
    have h9 := hO.cls
    rw [hvm] at h9
    exact h9
  have hall : s.sameButNew ({ U with vm := s.vm } : State) locs mc ms := by
    subst hA
    obtain ⟨e1, e2⟩ := hsame
    rw [State.setFrames_setFrames] at e1
    have h2 : (T.setVm s.vm).sameButNew ({ U with vm := s.vm } : State) [] (0 + 1) (0 + 6) := ⟨e1, e2⟩
    have h3 := X.same.trans h2
    rw [List.append_nil] at h3
    exact h3.mono hc hs
  refine ⟨U, ?_, .threw T.heap.size, hrun, hend, Or.inr ⟨T.heap.size, rfl, cls, ce, locs, hx U hWs.alike f1 (fun q hq => f2 q hq (fun z hz => nomatch hz)), hce, hO.vm, hcl, hWs, hall, hf⟩⟩
  refine st1 _ ?_
  show Steps p.tables e below (T1.setTop { method := m, pc := pc + 3, locals := ls, stack := .ref T.heap.size :: rest, locked := none }) _
  jvm_step X₁.here [X₁.here.top, hexec, d3', Value.category]
  exact X₁.ldcString hexec (own := own) (text := text) (index := is) (a := sa) hown' hstr'.1 hstr'.2
    (g := { method := m, pc := pc + 4, locals := ls, stack := .ref T.heap.size :: .ref T.heap.size :: rest, locked := none }) rfl d4' _ hsteps
/-- 'throw new E("text")', the text by a wide index -/
theorem vx_throwSW {cc : ByteArray} {pc : Nat} (hexec : p.tables.exec = Jvm.exec) (hb : c.code = cc) (hl : l.stackTraces = false) {own cls text : String} {names : List String} {ik is ic mc ms sa : Nat} {A : Nat → Prop}
    (hown : s.vm.findClass own = some m.cls) (hcls : Bundle.fit cls = true) (hnames : ∀ n ∈ names, Bundle.fit n = true)
    (hk : (Cond.classLink own ik cls).before args s = true) (hini : (Cond.initialized cls).before args s = true) (hstr : vk_R own is text sa s) (hat : ∀ w ∈ vx_atS own ic cls names, w.before args s = true)
    (hgood : ∀ w ∈ Cond.classLink own ik cls :: Cond.initialized cls :: vx_atS own ic cls names, vx_ot w = true)
    (hU : vx_Zq Bundle.tN "UNASSIGNED_STACK" Bundle.steD A s s.heap) (hN : vx_Zq Bundle.tN "SUPPRESSED_SENTINEL" Bundle.listD A s s.heap) (hS : va_S A s.heap H locs) (hsize : ls.size = c.maxLocals)
    (d0 : decode cc pc = .ok (.new ik, 3)) (d3 : decode cc (pc + 3) = .ok (.dup, 1)) (d4 : decode cc (pc + 4) = .ok (.ldc_w is, 3)) (d7 : decode cc (pc + 7) = .ok (.invokespecial ic, 3)) (d10 : decode cc (pc + 10) = .ok (.athrow, 1))
    (hout : ∀ x ∈ c.exceptionTable.toList, covers x (pc + 10) = false)
    (hRframes : names.length + 3 < R.frames) (hRlocals : (rest.map fun v => v.category).sum + (13 * (names.length + 1) + 43) ≤ R.locals) (hRcells : cells + 1 ≤ R.cells) (hRslots : slots + 6 ≤ R.slots) (hlocks : meth.locks = false)
    (hx : ∀ t : State, s.vm.Alike t.vm → H.size ≤ t.heap.size → (∀ q : Nat, q < H.size → t.heap[q]? = H[q]?) → XC cls s t)
    (hf : ∀ z ∈ locs, free z.base) (hc : cells + 1 ≤ mc) (hs : slots + 6 ≤ ms) :
    W p l e R s m args below meth c H locs cells slots (vx_MQ below Qc XC args s mc ms free) (F0 m pc ls rest) := by
  intro T hT X
  have htr : e.platform.stackTraces = false := (show e.platform.stackTraces = l.stackTraces by rw [X.admits.platform]).trans hl
  have Y := vx_rebase X (R' := { frames := R.frames, locals := R.locals, cells := 1, slots := 6 }) (Nat.le_refl _) (Nat.le_refl _) hRcells hRslots
  obtain ⟨s', hA⟩ : ∃ z, z = (T.setVm s.vm).setFrames (.invoking m args :: below) := ⟨_, rfl⟩
  rw [← hA] at Y
  have hvm : s'.vm = s.vm := by rw [hA]; rfl
  have hhp : s'.heap = H := by rw [hA]; exact hT
  have hW0 : s.WarmedH s'.vm := by rw [hvm]; exact State.WarmedH.refl s
  have hat' : ∀ w ∈ vx_atS own ic cls names, w.before args s' = true := fun w hw => vx_ot_at hW0 hvm.symm (hgood w (List.mem_cons_of_mem _ (List.mem_cons_of_mem _ hw))) (hat w hw)
  have hk' : (Cond.classLink own ik cls).before args s' = true := vx_ot_at hW0 hvm.symm (hgood _ List.mem_cons_self) hk
  have hini' : (Cond.initialized cls).before args s' = true := vx_ot_at hW0 hvm.symm (hgood _ (List.mem_cons_of_mem _ List.mem_cons_self)) hini
  have hU' : vx_Zq Bundle.tN "UNASSIGNED_STACK" Bundle.steD A s' s'.heap := by rw [hhp]; exact vx_Zq.moved hW0.alike (hU.kept hS.2.1)
  have hN' : vx_Zq Bundle.tN "SUPPRESSED_SENTINEL" Bundle.listD A s' s'.heap := by rw [hhp]; exact vx_Zq.moved hW0.alike (hN.kept hS.2.1)
  have h : ∀ w ∈ Bundle.ownAtoms own ic cls names, w.before args s' = true := vx_own hat' (vx_isRefq hU'.1) (vx_isRefq hN'.1) hU'.2.word hN'.2.word
  have hown' : s'.vm.findClass own = some m.cls := by rw [hvm]; exact hown
  have hins : (Cond.instantiable cls 6).before args s' = true := h _ (by simp [Bundle.ownAtoms])
  obtain ⟨vm₁, cX, kX, hfX, hkX, -, -, X₁, st1⟩ := Y.newCold hexec (own := own) (C := cls) (index := ik) (n := 6) hown' hk' hins hini'
    (g := F0 m pc ls rest) rfl (by rw [hb]; exact d0) (Nat.le_refl _) (Nat.le_refl _)
  generalize hT1 : (T.setVm vm₁).pushCell { cls := cX, slots := kX.instanceTypes.map defaultValue, vm := .none } = T1 at X₁ st1
  have hcat : (Value.ref T.heap.size).category = 1 := rfl
  have hcellA : T1.heap[T.heap.size]? = some (freshCell cX kX) := by rw [← hT1]; exact State.heap_pushCell_size _ _
  have d3' : decode c.code (pc + 3) = .ok (.dup, 1) := by rw [hb]; exact d3
  have d4' : decode c.code (pc + 4) = .ok (.ldc_w is, 3) := by rw [hb]; exact d4
  have hstr' : vk_R own is text sa s' := vk_R.warm hW0 hstr
  obtain ⟨U, hsteps, hrun, hend, hW, hsame, ce, hce, hO⟩ := X₁.ctorThrowS hexec htr (own := own) (cls := cls) (names := names) (ic := ic) hown' hcls hnames h (fun x hx => nomatch hx) hfX hkX hcellA (by rw [hhp, hT]; exact Nat.le_refl _) (msg := .ref sa) rfl
    (g := { method := m, pc := pc + 7, locals := ls, stack := .ref sa :: .ref T.heap.size :: .ref T.heap.size :: rest, locked := none }) rfl hsize rfl rfl (rest := rest) rfl
    (by rw [hb]; exact d7) (by rw [hb]; exact d10) hout hRframes (by simp only [List.map_cons, List.sum_cons, hcat]; omega) hlocks
  obtain ⟨f1, f2⟩ := vx_frame hsame
  rw [hhp] at f1 f2
  have hWs : s.WarmedH U.vm := State.WarmedH.trans hW0 hW
  have hcl : s.vm.findClass cls = some ce.cls := by
    have h9 := hO.cls
    rw [hvm] at h9
    exact h9
  have hall : s.sameButNew ({ U with vm := s.vm } : State) locs mc ms := by
    subst hA
    obtain ⟨e1, e2⟩ := hsame
    rw [State.setFrames_setFrames] at e1
    have h2 : (T.setVm s.vm).sameButNew ({ U with vm := s.vm } : State) [] (0 + 1) (0 + 6) := ⟨e1, e2⟩
    have h3 := X.same.trans h2
    rw [List.append_nil] at h3
    exact h3.mono hc hs
  refine ⟨U, ?_, .threw T.heap.size, hrun, hend, Or.inr ⟨T.heap.size, rfl, cls, ce, locs, hx U hWs.alike f1 (fun q hq => f2 q hq (fun z hz => nomatch hz)), hce, hO.vm, hcl, hWs, hall, hf⟩⟩
  refine st1 _ ?_
  show Steps p.tables e below (T1.setTop { method := m, pc := pc + 3, locals := ls, stack := .ref T.heap.size :: rest, locked := none }) _
  jvm_step X₁.here [X₁.here.top, hexec, d3', Value.category]
  exact X₁.ldcStringW hexec (own := own) (text := text) (index := is) (a := sa) hown' hstr'.1 hstr'.2
    (g := { method := m, pc := pc + 4, locals := ls, stack := .ref T.heap.size :: .ref T.heap.size :: rest, locked := none }) rfl d4' _ hsteps
end Ends
section Bodies
variable {l : Launch}
theorem vx_ofW {y : MethodName} {ws ws' : List Cond} {rm : Room} {Pc : Array Value → State → Prop} {Qc : Array Value → State → Outcome → State → Prop} {XC : String → State → State → Prop} {mc ms : Nat} {free : Addr → Prop} {cc : ByteArray} {maxL : Nat} {ret : Option FieldType}
    (hy : plainName y.cls = true) (hw : ws = Cond.code y cc maxL ret :: ws')
    (body : ∀ p e s m args below meth c s₁, BodyLoose p l y (headSpec ws rm) cc maxL ret e s m args below meth c s₁ → c.maxLocals = maxL → (∀ x ∈ c.exceptionTable.toList, False) → Pc args s →
      W p l e (headSpec ws rm).room s m args below meth c s.heap [] 0 0 (vx_MQ below Qc XC args s mc ms free) (entryFrame m args maxL)) : vx_Met l y ws rm Pc Qc XC mc ms free := by
  refine MetFree.of_bodyS (code := cc) (maxLocals := maxL) (ret := ret) hy ?_ ?_
  · intro args s m h hn
    obtain ⟨meth, c, h1, h2, h3, h4, h5, h6, -, -⟩ := Cond.code_spec hn (atoms_spec (ws := ws) h _ (by rw [hw]; exact List.mem_cons_self))
    exact ⟨meth, c, h1, h2, h3, h4, h5, h6⟩
  · intro p e s m args below meth c s₁ B hml hP _
    have hh0 : s₁.heap = s.heap := by rw [B.state]; rfl
    have ht : ∀ x ∈ c.exceptionTable.toList, False := by
      obtain ⟨meth9, c9, h1, h2, -, -, -, -, h7, -⟩ := Cond.code_spec B.named (atoms_spec (ws := ws) B.pre _ (by rw [hw]; exact List.mem_cons_self))
      cases Option.some.inj (h1.symm.trans B.method)
      cases Option.some.inj (h2.symm.trans (Stand.of_body B).code)
      intro x hx
      rw [Array.isEmpty_iff.mp h7] at hx
      cases hx
    obtain ⟨t, a1, o, b1, b2, b3⟩ := body p e s m args below meth c s₁ B hml ht hP s₁ hh0 (Stand.of_body B)
    exact ⟨t, o, a1, b1, b2, b3⟩
/-- the table of a body with handlers -/
theorem vx_table {p : Program} {x y : MethodName} {S : Spec} {cc bytes : ByteArray} {maxL maxL' : Nat} {ret ret' : Option FieldType} {e : Env} {s s₁ : State} {m : MethodId} {args : Array Value} {below : List Frame} {meth : Method} {c : Code} {hh : List (Nat × Nat × Nat × Nat)}
    (B : BodyLoose p l y S cc maxL ret e s m args below meth c s₁) (h : (Cond.codeWith y bytes maxL' ret' hh).before args s = true) : c.exceptionTable.toList = tableOf hh := by
  obtain ⟨m9, meth9, c9, hn9, h1, h2, -, -, h6, -⟩ := Cond.codeWith_spec h
  cases Option.some.inj (hn9.symm.trans B.named)
  cases Option.some.inj (h1.symm.trans B.method)
  cases Option.some.inj (h2.symm.trans (Stand.of_body B).code)
  rw [← h6, table_eq]
end Bodies
end VXA
/-! ===== END ===== -/
/-! ===== BEGIN a static call of a method with an exception table ===== -/
section VXS
variable {p : Program} {l : Launch} {e : Env} {R : Room} {s : State} {m : MethodId} {args : Array Value} {below : List Frame} {meth : Method} {c : Code} {T : State} {H : Heap} {locs : List Loc} {cells slots : Nat}
abbrev vx_CSW (R : Room) (s : State) (args : Array Value) (own : String) (index : Nat) (y : MethodName) (bytes : ByteArray) (maxL : Nat) (ret : Option FieldType) (hh : List (Nat × Nat × Nat × Nat)) (ws : List Cond) (rm : Room) (mc ms n : Nat) : Prop :=
  (rm.cells = mc ∧ rm.slots = ms ∧ rm.frames + 1 ≤ R.frames ∧ 8 + (maxL + 11) + rm.locals ≤ R.locals ∧ (∀ w ∈ ws, ∀ (a' : Array Value) (U : State), s.WarmedH U.vm → w.before a' U = true) ∧ Cond.codeWith y bytes maxL ret hh ∈ ws) ∧
  (Cond.codeWith y bytes maxL ret hh).before args s = true ∧ (Cond.initialized y.cls).before args s = true ∧ (y.cls ≠ "java/lang/invoke/MethodHandle" ∧ y.cls ≠ "java/lang/invoke/VarHandle") ∧
  (∀ sig, parseMethodDescriptor y.desc = some sig → n = sig.parameters.length) ∧ (Cond.methodLink own index y).before args s = true ∧ (Cond.static y).before args s = true
theorem vx_cwSW {own : String} {index maxL mc ms : Nat} {y : MethodName} {bytes : ByteArray} {ret : Option FieldType} {hh : List (Nat × Nat × Nat × Nat)} {Ts ws ws' : List Cond} {rm : Room} (n : Nat) (ht : ∀ w ∈ Ts, w.before args s = true) (hT : GoodIn Ts (va_wsS own index y ws)) (hw : ws = Cond.codeWith y bytes maxL ret hh :: ws') (hrc : rm.cells = mc) (hrs : rm.slots = ms)
    (hd : y.cls ≠ "java/lang/invoke/MethodHandle" ∧ y.cls ≠ "java/lang/invoke/VarHandle" ∧ (parseMethodDescriptor y.desc).map (fun d => d.parameters.length) = some n) (hR : rm.frames + 1 ≤ R.frames ∧ 8 + (maxL + 11) + rm.locals ≤ R.locals) :
    vx_CSW R s args own index y bytes maxL ret hh ws rm mc ms n := by
  have ok : ∀ w ∈ va_wsS own index y ws, w.before args s = true := fun w h => ht w (hT w h).1
  have hG : GoodIn Ts ws := fun w h => hT w (by unfold va_wsS; exact List.mem_append_right _ h)
  have hc : Cond.codeWith y bytes maxL ret hh ∈ ws := by rw [hw]; exact List.mem_cons_self
  refine ⟨⟨hrc, hrs, hR.1, hR.2, pay_in ht hG, hc⟩, ht _ (hG _ hc).1, ok _ (by simp [va_wsS]), ⟨hd.1, hd.2.1⟩, fun sig h => ?_, ok _ (by simp [va_wsS]), ok _ (by simp [va_wsS])⟩
  have h2 := hd.2.2
  rw [h] at h2
  exact (Option.some.inj h2).symm
theorem vx_callSW (X : Stand p l e R s m args below meth c T locs cells slots) (hexec : p.tables.exec = Jvm.exec) {own : String} {index : Nat} {y : MethodName} {bytes : ByteArray} {maxL : Nat} {ret : Option FieldType} {hh : List (Nat × Nat × Nat × Nat)}
    (hown : s.vm.findClass own = some m.cls) (hlink : (Cond.methodLink own index y).before args s = true) (hstat : (Cond.static y).before args s = true) (hinit : (Cond.initialized y.cls).before args s = true)
    (hcode : (Cond.codeWith y bytes maxL ret hh).before args s = true) (hy : y.cls ≠ "java/lang/invoke/MethodHandle" ∧ y.cls ≠ "java/lang/invoke/VarHandle")
    {W9 : Nat} {Pre : Pt → Array Value → Prop} {Post : Pt → Array Value → Option Value → Pt → Prop} (hK : Back l R p e below s args y 3 W9 Pre Post)
    {g : JFrame} (hg : g.method = m) (hsize : g.locals.size = c.maxLocals) {argsL rest : List Value} (hlen : ∀ sig, parseMethodDescriptor y.desc = some sig → argsL.length = sig.parameters.length)
    (hstack : g.stack = argsL.reverse ++ rest) (hW : 2 * g.monitorRoom + (rest.map fun v => v.category).sum ≤ W9) (hdg : decode c.code g.pc = .ok (.invokestatic index, 3))
    (hpre : ∀ vm₁, s.WarmedH vm₁ → Pre ⟨T.setVm vm₁, locs, cells, slots⟩ argsL.toArray) :
    ∃ (v : Option Value) (vm₁ : Vm) (B : Pt), s.WarmedH vm₁ ∧ Stand p l e R s m args below meth c B.U B.locs B.cells B.slots ∧ Post ⟨T.setVm vm₁, locs, cells, slots⟩ argsL.toArray v B ∧
      ∀ target, Steps p.tables e below (B.U.setTop { g with pc := g.pc + 3, stack := v.toList ++ rest }) target → Steps p.tables e below (T.setTop g) target := by
  obtain ⟨mk, methM, cM, hnamed, hmethM, -, -, -, -, -, -, hsigM⟩ := Cond.codeWith_spec hcode
  have hstatic : methM.isStatic = true := Cond.static_spec hnamed hmethM hstat
  obtain ⟨kP, hkP, -⟩ := className_of_methodNamed hnamed
  have hinitP : kP.init = .initialized := Cond.initialized_spec (findClass_of_methodNamed hnamed) hkP hinit
  obtain ⟨vm₁, X₁, hstep₁⟩ := X.invokestatic hexec hown hlink hnamed hmethM hstatic hkP hinitP hy (g := g) hg (argsL := argsL) (rest := rest) (hlen _ hsigM) hstack hdg
  obtain ⟨v, B, X', hpost, hsteps⟩ := hK m meth c ⟨T.setVm vm₁, locs, cells, slots⟩ { g with stack := rest } (.invokestatic index) mk argsL.toArray X₁ hg hsize hdg hW (X₁.named hnamed) (hpre vm₁ X₁.warmed)
  exact ⟨v, vm₁, B, X₁.warmed, X', hpost, fun target h => hstep₁ _ fun acts => by rw [doInvoke_state]; exact hsteps.trans h⟩
theorem vx_runSW {y : MethodName} {bytes cc : ByteArray} {maxL nL mc ms n index : Nat} {ret : Option FieldType} {hh : List (Nat × Nat × Nat × Nat)} {ws : List Cond} {rm : Room} {Pc : Array Value → State → Prop} {Qc : Array Value → State → Outcome → State → Prop} {free : Addr → Prop} {Ts : List Cond} {own : String} {As rest : List Value} {g : JFrame}
    (S : CallFix p m c cc nL s args Ts own) (hM : Met l y ws rm Pc Qc mc ms free) (cw : vx_CSW R s args own index y bytes maxL ret hh ws rm mc ms n) (hp : PreS s H Pc As)
    (hg : g.method = m) (hn : As.length = n) (hsize : g.locals.size = nL) (hstack : g.stack = As.reverse ++ rest) (hW : 2 * g.monitorRoom + (rest.map fun v => v.category).sum ≤ 8) (hdg : decode cc g.pc = .ok (.invokestatic index, 3)) (hf : cells + mc ≤ R.cells ∧ slots + ms ≤ R.slots) :
    va_Run p l e R s m args below meth c H locs cells slots mc ms g rest (Qc As.toArray) (free) := by
  obtain ⟨⟨hrc, hrs, hfr, hlo, hws, hcw⟩, hcode, hini, hy, hlen, hl, hstt⟩ := cw
  have hK : Back l R p e below s args y 3 8 (PreOf R mc ms Pc) (PostOf Qc mc ms free) := va_backW (hh := hh) (bytes := bytes) (maxL := maxL) (ret := ret) hM hp.1 hrc hrs hfr hlo hws hcw (fun a' U hW => word_at hW (Or.inl (by first | rfl | simp [Cond.onTables, Cond.keeps, Cond.steady])) hini)
  obtain ⟨hx, hb, hml, ho, -⟩ := S
  intro T hT X
  obtain ⟨v, vm₁, ⟨U', l2, c2, s2⟩, hW₁, X', ⟨g', mk, t, L, e1, e2, hq, h1, hL, h2, h3⟩, st⟩ := vx_callSW X hx (hh := hh) (bytes := bytes) (maxL := maxL) (ret := ret) ho hl hstt hini hcode hy hK hg (hsize.trans hml.symm) (argsL := As) (rest := rest) (fun sig h => hn.trans (hlen sig h)) hstack hW (by rw [hb]; exact hdg)
    (fun vm₁ hW₁ => ⟨hf.1, hf.2, hp.2 (T.setVm vm₁) hT hW₁⟩)
  dsimp only [Pt.U, Pt.locs, Pt.cells, Pt.slots] at X' e1 e2 h1 h2 h3 st
  subst h1; subst h2; subst h3
  exact ⟨v, (T.setVm vm₁).calling g' mk As.toArray, t, U', L, hT, X', hL, e1, e2, hq, st⟩
/-- not caught here, past rows that name other classes: it goes on to the caller -/
theorem vx_outP {p : Program} {l : Launch} {e : Env} {R : Room} {s : State} {m : MethodId} {args : Array Value} {below : List Frame} {meth : Method} {c : Code} {H : Heap} {locs : List Loc} {cells slots : Nat} {free : Addr → Prop} {ls : Array Slot} {rest : List Value} {Qc : Array Value → State → Outcome → State → Prop} {XC : String → State → State → Prop}
    {pc : Nat} {own E : String} {ce : Cell} {q : Addr} {mc ms : Nat} (hown : s.vm.findClass own = some m.cls) (hlocks : meth.locks = false)
    (hpass : ∀ z ∈ c.exceptionTable.toList, covers z pc = false ∨ (z.catchType ≠ 0 ∧ ∃ nm : String, (Cond.classLink own z.catchType nm).before args s = true ∧ va_Nc E nm s)) (hcell : H[q]? = some ce) (hv : ce.vm = .none) (hcl : s.vm.findClass E = some ce.cls)
    (hx : ∀ t : State, t.heap = H → s.vm.Alike t.vm → XC E s t) (hf : ∀ z ∈ locs, free z.base) (hc : cells ≤ mc) (hs : slots ≤ ms) :
    vx_W p l e R s m args below meth c H locs cells slots (vx_MQ below Qc XC args s mc ms free) (F0 m pc ls rest) q := by
  intro T hT X
  have hpl : e.platform.magicAccessors = ({} : Platform).magicAccessors := by rw [X.admits.platform]
  obtain ⟨vm', hW', X', st⟩ := Jvm.Stand.outThrough X hlocks q (g := F0 m pc ls rest) rfl rfl rfl (cell := ce) (by rw [hT]; exact hcell) (by rw [hv]; rfl)
    (by obtain ⟨k9, h9, -⟩ := Vm.findClass_spec hcl; exact ⟨k9, h9⟩) (fun z hz => by
      rcases hpass z hz with h | ⟨hz0, nm, hl1, hn1⟩
      · exact Or.inl h
      · obtain ⟨c6, hc6, hcl6⟩ := Cond.classLink_spec hown hl1 e.platform hpl
        obtain ⟨a8, b8, h1, h2, h3⟩ := hn1
        cases Option.some.inj (h1.symm.trans hcl)
        cases Option.some.inj (h2.symm.trans hc6)
        exact Or.inr ⟨hz0, _, hcl6, h3⟩)
  obtain ⟨g₀, hfr⟩ := X'.frames_eq
  have hcell9 : ((T.setVm vm').setFrames (.throwing q :: below)).heap[q]? = some ce := by
    show T.heap[q]? = some ce
    rw [hT]; exact hcell
  have hend : Ended ((T.setVm vm').setFrames (.throwing q :: below)) below (.threw q) := State.frames_setFrames _ (State.cur_lt_of_frames hfr)
  refine ⟨(T.setVm vm').setFrames (.throwing q :: below), ?_, .threw q, X'.here.running, hend, Or.inr ⟨q, rfl, E, ce, locs, hx _ hT (X'.ends _).1.alike, hcell9, hv, hcl, (X'.ends _).1, (X'.ends _).2.mono hc hs, hf⟩⟩
  rw [X.pushThrowing_eq]
  exact st
/-- a thing of a world lies in the heap -/
theorem vx_lt {D : va_G} {cl : List vw_C} {ws : va_W} {H1 : Heap} (h : va_P D cl ws H1) {k : Nat} {q : Nat × va_E} (hk : ws[k]? = some q) : q.1 < H1.size := (h k q hk).lt
end VXS
/-! ===== END ===== -/
/-! ===== BEGIN methods with a table of their own: called by a name, returning or throwing ===== -/
section VXH
/-! vx_backW, vx_callVX, vx_callSX, vx_callVW, vx_runVW, vx_runVX, vx_runSX, vx_ofWH follow the same proofs as their sisters above (Free/Laws.lean, Shelf42/LK1.lean); vx_outP calls Shelf42/NT130.lean (outThrough). -/
section
variable {l : Launch} {R : Room} {p : Program} {e : Env} {below : List Frame} {s : State} {sargs : Array Value} {y : MethodName} {len W9 : Nat}
theorem vx_backW {ws : List Cond} {rm : Room} {Pc : Array Value → State → Prop} {Qc : Array Value → State → Outcome → State → Prop} {XC : String → State → State → Prop} {mc ms : Nat} {free : Addr → Prop} {bytes : ByteArray} {maxL : Nat} {ret : Option FieldType} {hh : List (Nat × Nat × Nat × Nat)}
    (hM : vx_Met l y ws rm Pc Qc XC mc ms free) (hblind : FrameBlind Pc) (hrc : rm.cells = mc) (hrs : rm.slots = ms)
    (hframes : rm.frames + 1 ≤ R.frames) (hlocals : W9 + (maxL + 11) + rm.locals ≤ R.locals)
    (hws : ∀ w ∈ ws, ∀ a' U, s.WarmedH U.vm → w.before a' U = true) (hcode : Cond.codeWith y bytes maxL ret hh ∈ ws) (hinit : ∀ a' U, s.WarmedH U.vm → (Cond.initialized y.cls).before a' U = true) :
    vx_Back l R p e below s sargs y len W9 (PreOf R mc ms Pc) (PostOf Qc mc ms free) (vx_Post XC mc ms free) := by
  intro m meth c A g ig mk a X hg hsize hdg hW hn hp
  have h1 : (headSpec ws rm).pre.before a A.U = true := atoms_intro fun w hw => hws w hw _ _ X.warmed
  have h2 : (Cond.codeWith y bytes maxL ret hh).before a A.U = true := hws _ hcode _ _ X.warmed
  have h3 : (Cond.initialized y.cls).before a A.U = true := hinit _ _ X.warmed
  have h4 : A.cells + (headSpec ws rm).room.cells ≤ R.cells := by rw [show (headSpec ws rm).room.cells = mc from hrc]; exact hp.1
  have h5 : A.slots + (headSpec ws rm).room.slots ≤ R.slots := by rw [show (headSpec ws rm).room.slots = ms from hrs]; exact hp.2.1
  have hPc : Pc a (A.U.calling g mk a) := hblind _ _ _ _ hp.2.2
  obtain ⟨U, Ls, c0, s0⟩ := A
  dsimp only [Pt.U, Pt.locs, Pt.cells, Pt.slots] at h1 h2 h3 h4 h5 X hn hPc ⊢
  obtain ⟨m9, methY, cY, hn9, hmY, hcY, -, hlY, -⟩ := Cond.codeWith_spec h2
  cases Option.some.inj (hn9.symm.trans hn)
  obtain ⟨kY, hkY, -⟩ := className_of_methodNamed hn
  have hinitY : kY.init = .initialized := Cond.initialized_spec (findClass_of_methodNamed hn) hkY h3
  have h : At U g.method c below := by rw [hg]; exact X.here
  have hlocals9 : W9 + (maxL + 11) + (headSpec ws rm).room.locals ≤ R.locals := hlocals
  have happ : (headSpec ws rm).appliesLoose y e.platform (U.calling g mk a) = true :=
    Spec.appliesLoose_calling (g := g) h hdg hn hkY hinitY
      (X.room_calling (g := g) (R' := (headSpec ws rm).room) hsize hmY hcY hframes (by rw [hlY]; omega) h4 h5) h1
  obtain ⟨mid, hmid⟩ := h.above
  have hfr : (U.setTop g).frames = (.java g :: mid) ++ below := by rw [State.frames_setTop' g h.top, hmid]; rfl
  obtain ⟨o, s₂, hsteps, -, hend, hq⟩ := Steps.callFree hM p X.admits X.cas X.clock (acts := []) hfr happ hPc trivial
  have hq' : vx_Q Qc XC mc ms free a (U.calling g mk a) o s₂ := hq
  rw [State.frames_setTop' g h.top] at hend
  obtain ⟨g₀, hg0⟩ := Option.isSome_iff_exists.mp h.top
  obtain ⟨r, hr⟩ := State.topJava?_eq_some.mp hg0
  have hr' : (({ U with heap := s₂.heap, slotsUsed := s₂.slotsUsed } : State).setVm s₂.vm).frames = .java g₀ :: r := hr
  rcases hq' with ⟨hqc, L, hfe, hL⟩ | ⟨q, rfl, E, ce, L, hx, hce, hcv, hcl, hW₂, hsm, hL⟩
  · obtain ⟨⟨v, rfl⟩, hW₂, e2, q2, q3, q4, q5, q6⟩ := id hfe
    have e3 : s₂ = ({ (U.calling g mk a).setFrames s₂.frames with heap := s₂.heap, slotsUsed := s₂.slotsUsed } : State).setVm s₂.vm := by
      have : s₂ = ({ s₂ with vm := (U.calling g mk a).vm } : State).setVm s₂.vm := rfl
      rw [e2] at this
      exact this
    obtain ⟨c₂, i₂, len₂, hc₂, hd₂, hf₂⟩ := hend
    have hW' : U.WarmedH s₂.vm := hW₂
    have hcc : c₂ = c := by
      have h1 : s₂.code? g.method = U.code? g.method := by
        rw [State.code?_eq, State.code?_eq, hW'.alike.method?]
      exact Option.some.inj (hc₂.symm.trans (h1.trans h.code))
    subst hcc
    have hlen : len₂ = len := by rw [hdg] at hd₂; cases hd₂; rfl
    subst hlen
    have hs₂ : s₂ = (({ U with heap := s₂.heap, slotsUsed := s₂.slotsUsed } : State).setVm s₂.vm).setTop { g with pc := g.pc + len₂, stack := v.toList ++ g.stack } := by
      refine e3.trans ?_
      rw [hf₂, State.calling_eq h.top, State.setFrames_setFrames, State.setTop_of_frames _ hr', hr]
      rfl
    have hsame : U.sameButNew ({ U with heap := s₂.heap, slotsUsed := s₂.slotsUsed } : State) L mc ms := by
      refine ⟨?_, q2, q3, q4, q5, q6⟩
      obtain ⟨t, ht, -⟩ := State.frames_cons hr
      show ({ U with heap := s₂.heap, slotsUsed := s₂.slotsUsed } : State) = { U.setFrames U.frames with heap := s₂.heap, slotsUsed := s₂.slotsUsed }
      rw [State.setFrames_self ht]
    subst hg
    refine Or.inl ⟨v, ⟨(({ U with heap := s₂.heap, slotsUsed := s₂.slotsUsed } : State).setVm s₂.vm), Ls ++ L, c0 + mc, s0 + ms⟩,
      ⟨X.admits, X.cas, X.clock, X.frames, X.room, X.hears, X.method, X.code, (X.here.setHeapUsed s₂.heap s₂.slotsUsed).setVm hW'.alike, X.tail, State.WarmedH.trans X.warmed hW', X.limits, X.bytes, X.same.trans (hsame.setVm s.vm)⟩,
      ⟨g, mk, s₂, L, rfl, rfl, hqc, rfl, hL, rfl, rfl⟩, ?_⟩
    show Steps p.tables e below _ ((({ U with heap := s₂.heap, slotsUsed := s₂.slotsUsed } : State).setVm s₂.vm).setTop { g with pc := g.pc + len₂, stack := v.toList ++ g.stack })
    rw [← hs₂]
    exact hsteps
  · obtain ⟨e2, q2, q3, q4, q5, q6⟩ := id hsm
    have e3 : s₂ = ({ (U.calling g mk a).setFrames s₂.frames with heap := s₂.heap, slotsUsed := s₂.slotsUsed } : State).setVm s₂.vm := by
      have : s₂ = ({ s₂ with vm := (U.calling g mk a).vm } : State).setVm s₂.vm := rfl
      rw [e2] at this
      exact this
    have hf₂ : s₂.frames = .throwing q :: .java g :: U.frames.tail := hend
    have hW' : U.WarmedH s₂.vm := hW₂
    have hs₂ : s₂ = ((({ U with heap := s₂.heap, slotsUsed := s₂.slotsUsed } : State).setVm s₂.vm).setTop g).pushFrame (.throwing q) := by
      refine e3.trans ?_
      rw [hf₂, State.calling_eq h.top, State.setFrames_setFrames, State.pushFrame, State.frames_setTop _ hr', State.setTop_of_frames _ hr', State.setFrames_setFrames, hr]
      rfl
    have hsame : U.sameButNew ({ U with heap := s₂.heap, slotsUsed := s₂.slotsUsed } : State) L mc ms := by
      refine ⟨?_, q2, q3, q4, q5, q6⟩
      obtain ⟨t, ht, -⟩ := State.frames_cons hr
      show ({ U with heap := s₂.heap, slotsUsed := s₂.slotsUsed } : State) = { U.setFrames U.frames with heap := s₂.heap, slotsUsed := s₂.slotsUsed }
      rw [State.setFrames_self ht]
    subst hg
    refine Or.inr ⟨q, ⟨(({ U with heap := s₂.heap, slotsUsed := s₂.slotsUsed } : State).setVm s₂.vm), Ls ++ L, c0 + mc, s0 + ms⟩,
      ⟨X.admits, X.cas, X.clock, X.frames, X.room, X.hears, X.method, X.code, (X.here.setHeapUsed s₂.heap s₂.slotsUsed).setVm hW'.alike, X.tail, State.WarmedH.trans X.warmed hW', X.limits, X.bytes, X.same.trans (hsame.setVm s.vm)⟩,
      ⟨g, mk, s₂, L, E, ce, rfl, rfl, hx, hce, hcv, hcl, rfl, hL, rfl, rfl⟩, ?_⟩
    show Steps p.tables e below _ (((({ U with heap := s₂.heap, slotsUsed := s₂.slotsUsed } : State).setVm s₂.vm).setTop g).pushFrame (.throwing q))
    rw [← hs₂]
    exact hsteps
end
variable {p : Program} {l : Launch} {e : Env} {R : Room} {s : State} {m : MethodId} {args : Array Value} {below : List Frame} {meth : Method} {c : Code} {T : State} {H : Heap} {locs : List Loc} {cells slots : Nat}
theorem vx_callVX (X : Stand p l e R s m args below meth c T locs cells slots) (hexec : p.tables.exec = Jvm.exec) {own C : String} {index : Nat} {y : MethodName} {bytes : ByteArray} {maxL : Nat} {ret : Option FieldType} {hh : List (Nat × Nat × Nat × Nat)}
    (hown : s.vm.findClass own = some m.cls) (hlink : (Cond.methodLink own index y).before args s = true) (hinst : (Cond.instanceMethod y).before args s = true) (hsel : (Cond.selects C y y).before args s = true)
    (hcode : (Cond.codeWith y bytes maxL ret hh).before args s = true) (hy : y.cls ≠ "java/lang/invoke/MethodHandle" ∧ y.cls ≠ "java/lang/invoke/VarHandle")
    {W9 : Nat} {Pre : Pt → Array Value → Prop} {Post : Pt → Array Value → Option Value → Pt → Prop} {PostX : Pt → Array Value → Addr → Pt → Prop} (hK : vx_Back l R p e below s args y 3 W9 Pre Post PostX)
    {b : Addr} {cellB : Cell} (hcell : T.heap[b]? = some cellB) (hobj : cellB.vm.isStatics = false) (hcls : s.vm.findClass C = some cellB.cls)
    {g : JFrame} (hg : g.method = m) (hsize : g.locals.size = c.maxLocals) {argsL rest : List Value} (hlen : ∀ sig, parseMethodDescriptor y.desc = some sig → argsL.length = sig.parameters.length)
    (hstack : g.stack = argsL.reverse ++ .ref b :: rest) (hW : 2 * g.monitorRoom + (rest.map fun v => v.category).sum ≤ W9) (hdg : decode c.code g.pc = .ok (.invokevirtual index, 3))
    (hpre : ∀ vm₁, s.WarmedH vm₁ → Pre ⟨T.setVm vm₁, locs, cells, slots⟩ (Value.ref b :: argsL).toArray) :
    (∃ (v : Option Value) (vm₁ : Vm) (B : Pt), s.WarmedH vm₁ ∧ Stand p l e R s m args below meth c B.U B.locs B.cells B.slots ∧ Post ⟨T.setVm vm₁, locs, cells, slots⟩ (Value.ref b :: argsL).toArray v B ∧
      ∀ target, Steps p.tables e below (B.U.setTop { g with pc := g.pc + 3, stack := v.toList ++ rest }) target → Steps p.tables e below (T.setTop g) target) ∨
    (∃ (q : Addr) (vm₁ : Vm) (B : Pt), s.WarmedH vm₁ ∧ Stand p l e R s m args below meth c B.U B.locs B.cells B.slots ∧ PostX ⟨T.setVm vm₁, locs, cells, slots⟩ (Value.ref b :: argsL).toArray q B ∧
      Steps p.tables e below (T.setTop g) ((B.U.setTop { g with stack := rest }).pushFrame (.throwing q))) := by
  obtain ⟨mk, methM, hnamed, hmethM, hstM, habM⟩ := Cond.instanceMethod_spec hinst
  obtain ⟨m8, methM', cM, hn8, hmethM', -, -, -, -, -, -, hsigM⟩ := Cond.codeWith_spec hcode
  cases Option.some.inj (hn8.symm.trans hnamed)
  cases hmethM.symm.trans hmethM'
  obtain ⟨c2, r2, m2, q1, q2, q3, q4, kP, hkP, hkPi⟩ := Cond.selects_spec hsel
  cases hcls.symm.trans q1
  cases (State.methodFound?_of_named hnamed hy).symm.trans q2
  cases hnamed.symm.trans q3
  have hselP : selectMethod e.platform s.vm cellB.cls mk = .method mk := by rw [Launch.admits_selectMethod X.admits]; exact q4
  obtain ⟨vm₁, X₁, hstep₁⟩ := X.invokevirtual hexec hown hlink hnamed hmethM hstM hkP hkPi hy (a := b) (cell := cellB) hcell
    (fun z h => by rw [h] at hobj; cases hobj) hselP hmethM habM hkP hkPi (g := g) hg (argsL := argsL) (rest := rest) (hlen _ hsigM) hstack hdg
  rcases hK m meth c ⟨T.setVm vm₁, locs, cells, slots⟩ { g with stack := rest } (.invokevirtual index) mk (Value.ref b :: argsL).toArray X₁ hg hsize hdg hW (X₁.named hnamed) (hpre vm₁ X₁.warmed) with ⟨v, B, X', hpost, hsteps⟩ | ⟨q, B, X', hpost, hsteps⟩
  · exact Or.inl ⟨v, vm₁, B, X₁.warmed, X', hpost, fun target h => hstep₁ _ fun acts => by rw [doInvoke_state]; exact hsteps.trans h⟩
  · exact Or.inr ⟨q, vm₁, B, X₁.warmed, X', hpost, hstep₁ _ fun acts => by rw [doInvoke_state]; exact hsteps⟩
theorem vx_callSX (X : Stand p l e R s m args below meth c T locs cells slots) (hexec : p.tables.exec = Jvm.exec) {own : String} {index : Nat} {y : MethodName} {bytes : ByteArray} {maxL : Nat} {ret : Option FieldType} {hh : List (Nat × Nat × Nat × Nat)}
    (hown : s.vm.findClass own = some m.cls) (hlink : (Cond.methodLink own index y).before args s = true) (hstat : (Cond.static y).before args s = true) (hinit : (Cond.initialized y.cls).before args s = true)
    (hcode : (Cond.codeWith y bytes maxL ret hh).before args s = true) (hy : y.cls ≠ "java/lang/invoke/MethodHandle" ∧ y.cls ≠ "java/lang/invoke/VarHandle")
    {W9 : Nat} {Pre : Pt → Array Value → Prop} {Post : Pt → Array Value → Option Value → Pt → Prop} {PostX : Pt → Array Value → Addr → Pt → Prop} (hK : vx_Back l R p e below s args y 3 W9 Pre Post PostX)
    {g : JFrame} (hg : g.method = m) (hsize : g.locals.size = c.maxLocals) {argsL rest : List Value} (hlen : ∀ sig, parseMethodDescriptor y.desc = some sig → argsL.length = sig.parameters.length)
    (hstack : g.stack = argsL.reverse ++ rest) (hW : 2 * g.monitorRoom + (rest.map fun v => v.category).sum ≤ W9) (hdg : decode c.code g.pc = .ok (.invokestatic index, 3))
    (hpre : ∀ vm₁, s.WarmedH vm₁ → Pre ⟨T.setVm vm₁, locs, cells, slots⟩ argsL.toArray) :
    (∃ (v : Option Value) (vm₁ : Vm) (B : Pt), s.WarmedH vm₁ ∧ Stand p l e R s m args below meth c B.U B.locs B.cells B.slots ∧ Post ⟨T.setVm vm₁, locs, cells, slots⟩ argsL.toArray v B ∧
      ∀ target, Steps p.tables e below (B.U.setTop { g with pc := g.pc + 3, stack := v.toList ++ rest }) target → Steps p.tables e below (T.setTop g) target) ∨
    (∃ (q : Addr) (vm₁ : Vm) (B : Pt), s.WarmedH vm₁ ∧ Stand p l e R s m args below meth c B.U B.locs B.cells B.slots ∧ PostX ⟨T.setVm vm₁, locs, cells, slots⟩ argsL.toArray q B ∧
      Steps p.tables e below (T.setTop g) ((B.U.setTop { g with stack := rest }).pushFrame (.throwing q))) := by
  obtain ⟨mk, methM, cM, hnamed, hmethM, -, -, -, -, -, -, hsigM⟩ := Cond.codeWith_spec hcode
  have hstatic : methM.isStatic = true := Cond.static_spec hnamed hmethM hstat
  obtain ⟨kP, hkP, -⟩ := className_of_methodNamed hnamed
  have hinitP : kP.init = .initialized := Cond.initialized_spec (findClass_of_methodNamed hnamed) hkP hinit
  obtain ⟨vm₁, X₁, hstep₁⟩ := X.invokestatic hexec hown hlink hnamed hmethM hstatic hkP hinitP hy (g := g) hg (argsL := argsL) (rest := rest) (hlen _ hsigM) hstack hdg
  rcases hK m meth c ⟨T.setVm vm₁, locs, cells, slots⟩ { g with stack := rest } (.invokestatic index) mk argsL.toArray X₁ hg hsize hdg hW (X₁.named hnamed) (hpre vm₁ X₁.warmed) with ⟨v, B, X', hpost, hsteps⟩ | ⟨q, B, X', hpost, hsteps⟩
  · exact Or.inl ⟨v, vm₁, B, X₁.warmed, X', hpost, fun target h => hstep₁ _ fun acts => by rw [doInvoke_state]; exact hsteps.trans h⟩
  · exact Or.inr ⟨q, vm₁, B, X₁.warmed, X', hpost, hstep₁ _ fun acts => by rw [doInvoke_state]; exact hsteps⟩
theorem vx_callVW (X : Stand p l e R s m args below meth c T locs cells slots) (hexec : p.tables.exec = Jvm.exec) {own C : String} {index : Nat} {y : MethodName} {bytes : ByteArray} {maxL : Nat} {ret : Option FieldType} {hh : List (Nat × Nat × Nat × Nat)}
    (hown : s.vm.findClass own = some m.cls) (hlink : (Cond.methodLink own index y).before args s = true) (hinst : (Cond.instanceMethod y).before args s = true) (hsel : (Cond.selects C y y).before args s = true)
    (hcode : (Cond.codeWith y bytes maxL ret hh).before args s = true) (hy : y.cls ≠ "java/lang/invoke/MethodHandle" ∧ y.cls ≠ "java/lang/invoke/VarHandle")
    {W9 : Nat} {Pre : Pt → Array Value → Prop} {Post : Pt → Array Value → Option Value → Pt → Prop} (hK : Back l R p e below s args y 3 W9 Pre Post)
    {b : Addr} {cellB : Cell} (hcell : T.heap[b]? = some cellB) (hobj : cellB.vm.isStatics = false) (hcls : s.vm.findClass C = some cellB.cls)
    {g : JFrame} (hg : g.method = m) (hsize : g.locals.size = c.maxLocals) {argsL rest : List Value} (hlen : ∀ sig, parseMethodDescriptor y.desc = some sig → argsL.length = sig.parameters.length)
    (hstack : g.stack = argsL.reverse ++ .ref b :: rest) (hW : 2 * g.monitorRoom + (rest.map fun v => v.category).sum ≤ W9) (hdg : decode c.code g.pc = .ok (.invokevirtual index, 3))
    (hpre : ∀ vm₁, s.WarmedH vm₁ → Pre ⟨T.setVm vm₁, locs, cells, slots⟩ (Value.ref b :: argsL).toArray) :
    ∃ (v : Option Value) (vm₁ : Vm) (B : Pt), s.WarmedH vm₁ ∧ Stand p l e R s m args below meth c B.U B.locs B.cells B.slots ∧ Post ⟨T.setVm vm₁, locs, cells, slots⟩ (Value.ref b :: argsL).toArray v B ∧
      ∀ target, Steps p.tables e below (B.U.setTop { g with pc := g.pc + 3, stack := v.toList ++ rest }) target → Steps p.tables e below (T.setTop g) target := by
  obtain ⟨mk, methM, hnamed, hmethM, hstM, habM⟩ := Cond.instanceMethod_spec hinst
  obtain ⟨m8, methM', cM, hn8, hmethM', -, -, -, -, -, -, hsigM⟩ := Cond.codeWith_spec hcode
  cases Option.some.inj (hn8.symm.trans hnamed)
  cases hmethM.symm.trans hmethM'
  obtain ⟨c2, r2, m2, q1, q2, q3, q4, kP, hkP, hkPi⟩ := Cond.selects_spec hsel
  cases hcls.symm.trans q1
  cases (State.methodFound?_of_named hnamed hy).symm.trans q2
  cases hnamed.symm.trans q3
  have hselP : selectMethod e.platform s.vm cellB.cls mk = .method mk := by rw [Launch.admits_selectMethod X.admits]; exact q4
  obtain ⟨vm₁, X₁, hstep₁⟩ := X.invokevirtual hexec hown hlink hnamed hmethM hstM hkP hkPi hy (a := b) (cell := cellB) hcell
    (fun z h => by rw [h] at hobj; cases hobj) hselP hmethM habM hkP hkPi (g := g) hg (argsL := argsL) (rest := rest) (hlen _ hsigM) hstack hdg
  obtain ⟨v, B, X', hpost, hsteps⟩ := hK m meth c ⟨T.setVm vm₁, locs, cells, slots⟩ { g with stack := rest } (.invokevirtual index) mk (Value.ref b :: argsL).toArray X₁ hg hsize hdg hW (X₁.named hnamed) (hpre vm₁ X₁.warmed)
  exact ⟨v, vm₁, B, X₁.warmed, X', hpost, fun target h => hstep₁ _ fun acts => by rw [doInvoke_state]; exact hsteps.trans h⟩
abbrev vx_CVW (R : Room) (s : State) (args : Array Value) (own C : String) (index : Nat) (y : MethodName) (bytes : ByteArray) (maxL : Nat) (ret : Option FieldType) (hh : List (Nat × Nat × Nat × Nat)) (ws : List Cond) (rm : Room) (mc ms n : Nat) : Prop :=
  (rm.cells = mc ∧ rm.slots = ms ∧ rm.frames + 1 ≤ R.frames ∧ 8 + (maxL + 11) + rm.locals ≤ R.locals ∧ (∀ w ∈ ws, ∀ (a' : Array Value) (U : State), s.WarmedH U.vm → w.before a' U = true) ∧ Cond.codeWith y bytes maxL ret hh ∈ ws) ∧
  (Cond.codeWith y bytes maxL ret hh).before args s = true ∧ (Cond.initialized y.cls).before args s = true ∧ (y.cls ≠ "java/lang/invoke/MethodHandle" ∧ y.cls ≠ "java/lang/invoke/VarHandle") ∧
  (∀ sig, parseMethodDescriptor y.desc = some sig → n = sig.parameters.length) ∧ (Cond.methodLink own index y).before args s = true ∧ (Cond.instanceMethod y).before args s = true ∧ (Cond.selects C y y).before args s = true
theorem vx_cwVW {own C : String} {index maxL mc ms : Nat} {y : MethodName} {bytes : ByteArray} {ret : Option FieldType} {hh : List (Nat × Nat × Nat × Nat)} {Ts ws ws' : List Cond} {rm : Room} (n : Nat) (ht : ∀ w ∈ Ts, w.before args s = true) (hT : GoodIn Ts (wsV own index C y ws)) (hw : ws = Cond.codeWith y bytes maxL ret hh :: ws') (hrc : rm.cells = mc) (hrs : rm.slots = ms)
    (hd : y.cls = C ∧ y.cls ≠ "java/lang/invoke/MethodHandle" ∧ y.cls ≠ "java/lang/invoke/VarHandle" ∧ (parseMethodDescriptor y.desc).map (fun d => d.parameters.length) = some n) (hR : rm.frames + 1 ≤ R.frames ∧ 8 + (maxL + 11) + rm.locals ≤ R.locals) :
    vx_CVW R s args own C index y bytes maxL ret hh ws rm mc ms n := by
  obtain ⟨hC, hd⟩ := hd
  subst hC
  have ok : ∀ w ∈ wsV own index y.cls y ws, w.before args s = true := fun w h => ht w (hT w h).1
  have hG : GoodIn Ts ws := fun w h => hT w (by unfold wsV; exact List.mem_append_right _ h)
  have hc : Cond.codeWith y bytes maxL ret hh ∈ ws := by rw [hw]; exact List.mem_cons_self
  refine ⟨⟨hrc, hrs, hR.1, hR.2, pay_in ht hG, hc⟩, ht _ (hG _ hc).1, ok _ (by simp [wsV]), ⟨hd.1, hd.2.1⟩, fun sig h => ?_, ok _ (by simp [wsV]), ok _ (by simp [wsV]), ok _ (by simp [wsV])⟩
  have h2 := hd.2.2
  rw [h] at h2
  exact (Option.some.inj h2).symm
theorem vx_runVW {y : MethodName} {bytes cc : ByteArray} {maxL nL mc ms n index : Nat} {ret : Option FieldType} {hh : List (Nat × Nat × Nat × Nat)} {ws : List Cond} {rm : Room} {Pc : Array Value → State → Prop} {Qc : Array Value → State → Outcome → State → Prop} {free : Addr → Prop} {Ts : List Cond} {own C : String} {b : Addr} {As rest : List Value} {g : JFrame}
    (S : CallFix p m c cc nL s args Ts own) (hM : Met l y ws rm Pc Qc mc ms free) (cw : vx_CVW R s args own C index y bytes maxL ret hh ws rm mc ms n) (hp : PreV s H C b Pc As)
    (hg : g.method = m) (hn : As.length = n) (hsize : g.locals.size = nL) (hstack : g.stack = As.reverse ++ .ref b :: rest) (hW : 2 * g.monitorRoom + (rest.map fun v => v.category).sum ≤ 8) (hdg : decode cc g.pc = .ok (.invokevirtual index, 3)) (hf : cells + mc ≤ R.cells ∧ slots + ms ≤ R.slots) :
    va_Run p l e R s m args below meth c H locs cells slots mc ms g rest (Qc (Value.ref b :: As).toArray) free := by
  obtain ⟨⟨hrc, hrs, hfr, hlo, hws, hcw⟩, hcode, hini, hy, hlen, hl, hin, hse⟩ := cw
  have hK : Back l R p e below s args y 3 8 (PreOf R mc ms Pc) (PostOf Qc mc ms free) := va_backW (hh := hh) (bytes := bytes) (maxL := maxL) (ret := ret) hM hp.1 hrc hrs hfr hlo hws hcw (fun a' U hW => word_at hW (Or.inl (by first | rfl | simp [Cond.onTables, Cond.keeps, Cond.steady])) hini)
  obtain ⟨hx, hb, hml, ho, -⟩ := S
  obtain ⟨-, ⟨cellB, hcB, hoB, hclB⟩, hPc⟩ := hp
  intro T hT X
  obtain ⟨v, vm₁, ⟨U', l2, c2, s2⟩, hW₁, X', ⟨g', mk, t, L, e1, e2, hq, h1, hL, h2, h3⟩, st⟩ := vx_callVW X hx (C := C) (hh := hh) (bytes := bytes) (maxL := maxL) (ret := ret) ho hl hin hse hcode hy hK (by rw [hT]; exact hcB) hoB hclB hg (hsize.trans hml.symm) (argsL := As) (rest := rest) (fun sig h => hn.trans (hlen sig h)) hstack hW (by rw [hb]; exact hdg)
    (fun vm₁ hW₁ => ⟨hf.1, hf.2, hPc (T.setVm vm₁) hT hW₁⟩)
  dsimp only [Pt.U, Pt.locs, Pt.cells, Pt.slots] at X' e1 e2 h1 h2 h3 st
  subst h1; subst h2; subst h3
  exact ⟨v, (T.setVm vm₁).calling g' mk (Value.ref b :: As).toArray, t, U', L, hT, X', hL, e1, e2, hq, st⟩
section
variable {y : MethodName} {bytes cc : ByteArray} {maxL nL mc ms n index : Nat} {ret : Option FieldType} {ws : List Cond} {rm : Room} {Pc : Array Value → State → Prop} {Qc : Array Value → State → Outcome → State → Prop} {XC : String → State → State → Prop} {free : Addr → Prop} {Ts : List Cond} {own C : String} {b : Addr} {As rest : List Value} {g : JFrame}
theorem vx_runVX {hh : List (Nat × Nat × Nat × Nat)} (S : CallFix p m c cc nL s args Ts own) (hM : vx_Met l y ws rm Pc Qc XC mc ms free) (cw : vx_CVW R s args own C index y bytes maxL ret hh ws rm mc ms n) (hp : PreV s H C b Pc As)
    (hg : g.method = m) (hn : As.length = n) (hsize : g.locals.size = nL) (hstack : g.stack = As.reverse ++ .ref b :: rest) (hW : 2 * g.monitorRoom + (rest.map fun v => v.category).sum ≤ 8) (hdg : decode cc g.pc = .ok (.invokevirtual index, 3)) (hf : cells + mc ≤ R.cells ∧ slots + ms ≤ R.slots) :
    vx_Run p l e R s m args below meth c H locs cells slots mc ms g rest (Qc (Value.ref b :: As).toArray) XC free := by
  obtain ⟨⟨hrc, hrs, hfr, hlo, hws, hcw⟩, hcode, hini, hy, hlen, hl, hin, hse⟩ := cw
  have hK : vx_Back l R p e below s args y 3 8 (PreOf R mc ms Pc) (PostOf Qc mc ms free) (vx_Post XC mc ms free) := vx_backW (hh := hh) (bytes := bytes) (maxL := maxL) (ret := ret) hM hp.1 hrc hrs hfr hlo hws hcw (fun a' U hW => word_at hW (Or.inl (by first | rfl | simp [Cond.onTables, Cond.keeps, Cond.steady])) hini)
  obtain ⟨hx, hb, hml, ho, -⟩ := S
  obtain ⟨-, ⟨cellB, hcB, hoB, hclB⟩, hPc⟩ := hp
  intro T hT X
  rcases vx_callVX X hx (C := C) (hh := hh) (bytes := bytes) (maxL := maxL) (ret := ret) ho hl hin hse hcode hy hK (by rw [hT]; exact hcB) hoB hclB hg (hsize.trans hml.symm) (argsL := As) (rest := rest) (fun sig h => hn.trans (hlen sig h)) hstack hW (by rw [hb]; exact hdg)
    (fun vm₁ hW₁ => ⟨hf.1, hf.2, hPc (T.setVm vm₁) hT hW₁⟩) with ⟨v, vm₁, ⟨U', l2, c2, s2⟩, hW₁, X', ⟨g', mk, t, L, e1, e2, hq, h1, hL, h2, h3⟩, st⟩ | ⟨q, vm₁, ⟨U', l2, c2, s2⟩, hW₁, X', ⟨g', mk, t, L, E, ce, e1, e2, hq, hce, hcv, hcl, h1, hL, h2, h3⟩, st⟩
  · dsimp only [Pt.U, Pt.locs, Pt.cells, Pt.slots] at X' e1 e2 h1 h2 h3 st
    subst h1; subst h2; subst h3
    exact Or.inl ⟨v, (T.setVm vm₁).calling g' mk (Value.ref b :: As).toArray, t, U', L, hT, X', hL, e1, e2, hq, st⟩
  · dsimp only [Pt.U, Pt.locs, Pt.cells, Pt.slots] at X' e1 e2 h1 h2 h3 st hcl
    subst h1; subst h2; subst h3
    exact Or.inr ⟨q, (T.setVm vm₁).calling g' mk (Value.ref b :: As).toArray, t, U', L, E, ce, hT, X', hL, e1, e2, hq, hce, hcv, vx_cls hW₁ hcl, st⟩
theorem vx_runSX {hh : List (Nat × Nat × Nat × Nat)} (S : CallFix p m c cc nL s args Ts own) (hM : vx_Met l y ws rm Pc Qc XC mc ms free) (cw : vx_CSW R s args own index y bytes maxL ret hh ws rm mc ms n) (hp : PreS s H Pc As)
    (hg : g.method = m) (hn : As.length = n) (hsize : g.locals.size = nL) (hstack : g.stack = As.reverse ++ rest) (hW : 2 * g.monitorRoom + (rest.map fun v => v.category).sum ≤ 8) (hdg : decode cc g.pc = .ok (.invokestatic index, 3)) (hf : cells + mc ≤ R.cells ∧ slots + ms ≤ R.slots) :
    vx_Run p l e R s m args below meth c H locs cells slots mc ms g rest (Qc As.toArray) XC free := by
  obtain ⟨⟨hrc, hrs, hfr, hlo, hws, hcw⟩, hcode, hini, hy, hlen, hl, hstt⟩ := cw
  have hK : vx_Back l R p e below s args y 3 8 (PreOf R mc ms Pc) (PostOf Qc mc ms free) (vx_Post XC mc ms free) := vx_backW (hh := hh) (bytes := bytes) (maxL := maxL) (ret := ret) hM hp.1 hrc hrs hfr hlo hws hcw (fun a' U hW => word_at hW (Or.inl (by first | rfl | simp [Cond.onTables, Cond.keeps, Cond.steady])) hini)
  obtain ⟨hx, hb, hml, ho, -⟩ := S
  intro T hT X
  rcases vx_callSX X hx (hh := hh) (bytes := bytes) (maxL := maxL) (ret := ret) ho hl hstt hini hcode hy hK hg (hsize.trans hml.symm) (argsL := As) (rest := rest) (fun sig h => hn.trans (hlen sig h)) hstack hW (by rw [hb]; exact hdg)
    (fun vm₁ hW₁ => ⟨hf.1, hf.2, hp.2 (T.setVm vm₁) hT hW₁⟩) with ⟨v, vm₁, ⟨U', l2, c2, s2⟩, hW₁, X', ⟨g', mk, t, L, e1, e2, hq, h1, hL, h2, h3⟩, st⟩ | ⟨q, vm₁, ⟨U', l2, c2, s2⟩, hW₁, X', ⟨g', mk, t, L, E, ce, e1, e2, hq, hce, hcv, hcl, h1, hL, h2, h3⟩, st⟩
  · dsimp only [Pt.U, Pt.locs, Pt.cells, Pt.slots] at X' e1 e2 h1 h2 h3 st
    subst h1; subst h2; subst h3
    exact Or.inl ⟨v, (T.setVm vm₁).calling g' mk As.toArray, t, U', L, hT, X', hL, e1, e2, hq, st⟩
  · dsimp only [Pt.U, Pt.locs, Pt.cells, Pt.slots] at X' e1 e2 h1 h2 h3 st hcl
    subst h1; subst h2; subst h3
    exact Or.inr ⟨q, (T.setVm vm₁).calling g' mk As.toArray, t, U', L, E, ce, hT, X', hL, e1, e2, hq, hce, hcv, vx_cls hW₁ hcl, st⟩
end
end VXH
theorem vx_ofWH {l : Launch} {y : MethodName} {ws ws' : List Cond} {rm : Room} {Pc : Array Value → State → Prop} {Qc : Array Value → State → Outcome → State → Prop} {XC : String → State → State → Prop} {mc ms : Nat} {free : Addr → Prop} {cc : ByteArray} {maxL : Nat} {ret : Option FieldType} {hh : List (Nat × Nat × Nat × Nat)}
    (hy : plainName y.cls = true) (hw : ws = Cond.codeWith y cc maxL ret hh :: ws')
    (body : ∀ p e s m args below meth c s₁, BodyLoose p l y (headSpec ws rm) cc maxL ret e s m args below meth c s₁ → c.maxLocals = maxL → Pc args s →
      W p l e (headSpec ws rm).room s m args below meth c s.heap [] 0 0 (vx_MQ below Qc XC args s mc ms free) (entryFrame m args maxL)) : vx_Met l y ws rm Pc Qc XC mc ms free := by
  refine MetFree.of_bodyS (code := cc) (maxLocals := maxL) (ret := ret) hy ?_ ?_
  · intro args s m h hn
    obtain ⟨m9, meth, c, hn9, h1, h2, h3, h4, -, h5, h6, -⟩ := Cond.codeWith_spec (atoms_spec (ws := ws) h _ (by rw [hw]; exact List.mem_cons_self))
    cases hn.symm.trans hn9
    exact ⟨meth, c, h1, h2, h3, h4, h5, h6⟩
  · intro p e s m args below meth c s₁ B hml hP _
    have hh0 : s₁.heap = s.heap := by rw [B.state]; rfl
    obtain ⟨t, a1, o, b1, b2, b3⟩ := body p e s m args below meth c s₁ B hml hP s₁ hh0 (Stand.of_body B)
    exact ⟨t, o, a1, b1, b2, b3⟩
/-! ===== END ===== -/
end
section
def RX0 : String := "TownTable$Diary"
def TX0 : u_T := fun k => match k with
  | 0 => ("TownTable$Diary", "rows", "[I", true)
  | 1 => ("TownTable$Diary", "next", "I", false)
  | 2 => ("TownTable$Diary", "acts", "I", false)
  | 3 => ("TownTable$Diary", "notes", "I", false)
  | 4 => ("TownTable$Diary", "figure", "[I", true)
  | 5 => ("TownTable$Diary", "cell", "[I", true)
  | _ => ("TownTable$Diary", "hours", "[I", true)
def tyX0 : Nat → FieldType := fun k => match k with
  | 0 => .array .int
  | 1 => .int
  | 2 => .int
  | 3 => .int
  | 4 => .array .int
  | 5 => .array .int
  | _ => .array .int
abbrev wsX00 : List Cond := u_ws RX0 TX0 7
theorem nmX0 : ∀ a, a < 7 → ∀ b, b < 7 → a ≠ b → (TX0 a).2.1 ≠ (TX0 b).2.1 := by decide +kernel
theorem tyX0_ok : ∀ k, k < 7 → parseFieldDescriptor (TX0 k).2.2.1 = some (tyX0 k) := by decide +kernel
abbrev cX0_init : ByteArray := prog_2_method_1_code
def yX0_init : MethodName := ⟨RX0, "<init>", "()V"⟩
abbrev cX0_clearActs : ByteArray := prog_2_method_2_code
def yX0_clearActs : MethodName := ⟨RX0, "clearActs", "()V"⟩
abbrev cX0_clearNotes : ByteArray := prog_2_method_3_code
def yX0_clearNotes : MethodName := ⟨RX0, "clearNotes", "()V"⟩
abbrev cX0_keep : ByteArray := prog_2_method_4_code
def yX0_keep : MethodName := ⟨RX0, "keep", "(LTownTable$State;)V"⟩
abbrev cX0_takeBack : ByteArray := prog_2_method_5_code
def yX0_takeBack : MethodName := ⟨RX0, "takeBack", "(LTownTable$State;)V"⟩
abbrev cX0_add : ByteArray := prog_2_method_6_code
def yX0_add : MethodName := ⟨RX0, "add", "(III)V"⟩
abbrev cX0_copyFrom : ByteArray := prog_2_method_7_code
def yX0_copyFrom : MethodName := ⟨RX0, "copyFrom", "(LTownTable$Diary;)V"⟩
abbrev cX0_agrees : ByteArray := prog_2_method_8_code
def yX0_agrees : MethodName := ⟨RX0, "agrees", "(LTownTable$State;I)Z"⟩
def RX1 : String := "TownTable$Guesses"
def TX1 : u_T := fun k => match k with
  | 0 => ("TownTable$Guesses", "trial", "LTownTable$State;", true)
  | 1 => ("TownTable$Guesses", "places", "[J", true)
  | 2 => ("TownTable$Guesses", "many", "I", false)
  | _ => ("TownTable$Guesses", "first", "I", false)
def tyX1 : Nat → FieldType := fun k => match k with
  | 0 => .object "TownTable$State"
  | 1 => .array .long
  | 2 => .int
  | _ => .int
abbrev wsX10 : List Cond := u_ws RX1 TX1 4
theorem nmX1 : ∀ a, a < 4 → ∀ b, b < 4 → a ≠ b → (TX1 a).2.1 ≠ (TX1 b).2.1 := by decide +kernel
theorem tyX1_ok : ∀ k, k < 4 → parseFieldDescriptor (TX1 k).2.2.1 = some (tyX1 k) := by decide +kernel
abbrev cX1_init : ByteArray := prog_3_method_1_code
def yX1_init : MethodName := ⟨RX1, "<init>", "()V"⟩
abbrev cX1_search : ByteArray := prog_3_method_2_code
def yX1_search : MethodName := ⟨RX1, "search", "(LTownTable$Plan;LTownTable$State;LTownTable$Diary;LTownTable$Mover;)V"⟩
abbrev cX1_holdsAll : ByteArray := prog_3_method_3_code
def yX1_holdsAll : MethodName := ⟨RX1, "holdsAll", "(LTownTable$Plan;LTownTable$State;LTownTable$Diary;LTownTable$Mover;)Z"⟩
abbrev cX1_addPlaces : ByteArray := prog_3_method_4_code
def yX1_addPlaces : MethodName := ⟨RX1, "addPlaces", "(LTownTable$Plan;LTownTable$Mover;)V"⟩
def RX2 : String := "TownTable$Mover"
def TX2 : u_T := fun k => match k with
  | _ => ("TownTable$Mover", "values", "[I", true)
def tyX2 : Nat → FieldType := fun k => match k with
  | _ => .array .int
abbrev wsX20 : List Cond := u_ws RX2 TX2 1
theorem nmX2 : ∀ a, a < 1 → ∀ b, b < 1 → a ≠ b → (TX2 a).2.1 ≠ (TX2 b).2.1 := by decide +kernel
theorem tyX2_ok : ∀ k, k < 1 → parseFieldDescriptor (TX2 k).2.2.1 = some (tyX2 k) := by decide +kernel
abbrev cX2_init : ByteArray := prog_4_method_1_code
def yX2_init : MethodName := ⟨RX2, "<init>", "()V"⟩
abbrev cX2_passHours : ByteArray := prog_4_method_2_code
def yX2_passHours : MethodName := ⟨RX2, "passHours", "(LTownTable$Plan;LTownTable$State;I)V"⟩
abbrev cX2_passHour : ByteArray := prog_4_method_3_code
def yX2_passHour : MethodName := ⟨RX2, "passHour", "(LTownTable$Plan;LTownTable$State;Z)V"⟩
abbrev cX2_hurt : ByteArray := prog_4_method_4_code
def yX2_hurt : MethodName := ⟨RX2, "hurt", "(LTownTable$Plan;LTownTable$State;I)V"⟩
abbrev cX2_wantsToGo : ByteArray := prog_4_method_5_code
def yX2_wantsToGo : MethodName := ⟨RX2, "wantsToGo", "(LTownTable$Plan;LTownTable$State;I)Z"⟩
abbrev cX2_go : ByteArray := prog_4_method_6_code
def yX2_go : MethodName := ⟨RX2, "go", "(LTownTable$Plan;LTownTable$State;I)V"⟩
abbrev cX2_setValues : ByteArray := prog_4_method_7_code
def yX2_setValues : MethodName := ⟨RX2, "setValues", "(LTownTable$Plan;LTownTable$State;I)V"⟩
def RX3 : String := "TownTable$Plan"
def TX3 : u_T := fun k => match k with
  | 0 => ("TownTable$Plan", "width", "I", false)
  | 1 => ("TownTable$Plan", "height", "I", false)
  | 2 => ("TownTable$Plan", "walls", "J", false)
  | 3 => ("TownTable$Plan", "figures", "I", false)
  | 4 => ("TownTable$Plan", "start", "[I", true)
  | 5 => ("TownTable$Plan", "steps", "[I", true)
  | 6 => ("TownTable$Plan", "way", "[I", true)
  | 7 => ("TownTable$Plan", "seats", "I", false)
  | 8 => ("TownTable$Plan", "seatCell", "[I", true)
  | 9 => ("TownTable$Plan", "lights", "I", false)
  | 10 => ("TownTable$Plan", "light", "[I", true)
  | 11 => ("TownTable$Plan", "dullTold", "Z", false)
  | 12 => ("TownTable$Plan", "dullBelow", "I", false)
  | 13 => ("TownTable$Plan", "goes", "LTownTable$Rule;", true)
  | _ => ("TownTable$Plan", "hurts", "LTownTable$Rule;", true)
def tyX3 : Nat → FieldType := fun k => match k with
  | 0 => .int
  | 1 => .int
  | 2 => .long
  | 3 => .int
  | 4 => .array .int
  | 5 => .array .int
  | 6 => .array .int
  | 7 => .int
  | 8 => .array .int
  | 9 => .int
  | 10 => .array .int
  | 11 => .boolean
  | 12 => .int
  | 13 => .object "TownTable$Rule"
  | _ => .object "TownTable$Rule"
abbrev wsX30 : List Cond := u_ws RX3 TX3 15
theorem nmX3 : ∀ a, a < 15 → ∀ b, b < 15 → a ≠ b → (TX3 a).2.1 ≠ (TX3 b).2.1 := by decide +kernel
theorem tyX3_ok : ∀ k, k < 15 → parseFieldDescriptor (TX3 k).2.2.1 = some (tyX3 k) := by decide +kernel
abbrev cX3_init : ByteArray := prog_5_method_1_code
def yX3_init : MethodName := ⟨RX3, "<init>", "()V"⟩
abbrev cX3_clear : ByteArray := prog_5_method_2_code
def yX3_clear : MethodName := ⟨RX3, "clear", "()V"⟩
abbrev cX3_cells : ByteArray := prog_5_method_3_code
def yX3_cells : MethodName := ⟨RX3, "cells", "()I"⟩
abbrev cX3_lightOf : ByteArray := prog_5_method_4_code
def yX3_lightOf : MethodName := ⟨RX3, "lightOf", "(I)I"⟩
abbrev cX3_isDull : ByteArray := prog_5_method_5_code
def yX3_isDull : MethodName := ⟨RX3, "isDull", "(I)Z"⟩
abbrev cX3_stepOf : ByteArray := prog_5_method_6_code
def yX3_stepOf : MethodName := ⟨RX3, "stepOf", "(II)I"⟩
abbrev cX3_seatsAt : ByteArray := prog_5_method_7_code
def yX3_seatsAt : MethodName := ⟨RX3, "seatsAt", "(I)I"⟩
abbrev cX3_isWall : ByteArray := prog_5_method_8_code
def yX3_isWall : MethodName := ⟨RX3, "isWall", "(I)Z"⟩
abbrev cX3_isStart : ByteArray := prog_5_method_9_code
def yX3_isStart : MethodName := ⟨RX3, "isStart", "(I)Z"⟩
abbrev cX3_beside : ByteArray := prog_5_method_10_code
def yX3_beside : MethodName := ⟨RX3, "beside", "(II)I"⟩
def RX4 : String := "TownTable$PlanReader"
def TX4 : u_T := fun k => match k with
  | 0 => ("TownTable$PlanReader", "rules", "LTownTable$RuleReader;", true)
  | _ => ("TownTable$PlanReader", "rowSize", "I", false)
def tyX4 : Nat → FieldType := fun k => match k with
  | 0 => .object "TownTable$RuleReader"
  | _ => .int
abbrev wsX40 : List Cond := u_ws RX4 TX4 2
theorem nmX4 : ∀ a, a < 2 → ∀ b, b < 2 → a ≠ b → (TX4 a).2.1 ≠ (TX4 b).2.1 := by decide +kernel
theorem tyX4_ok : ∀ k, k < 2 → parseFieldDescriptor (TX4 k).2.2.1 = some (tyX4 k) := by decide +kernel
abbrev cX4_init : ByteArray := prog_6_method_1_code
def yX4_init : MethodName := ⟨RX4, "<init>", "()V"⟩
abbrev cX4_read : ByteArray := prog_6_method_2_code
def yX4_read : MethodName := ⟨RX4, "read", "(LTownTable$Tape;ILTownTable$Plan;)I"⟩
abbrev cX4_readTable : ByteArray := prog_6_method_3_code
def yX4_readTable : MethodName := ⟨RX4, "readTable", "(LTownTable$Tape;LTownTable$Plan;)I"⟩
abbrev cX4_sideFault : ByteArray := prog_6_method_4_code
def yX4_sideFault : MethodName := ⟨RX4, "sideFault", "(LTownTable$Tape;)I"⟩
abbrev cX4_readStop : ByteArray := prog_6_method_5_code
def yX4_readStop : MethodName := ⟨RX4, "readStop", "(LTownTable$Tape;)I"⟩
abbrev cX4_readLine : ByteArray := prog_6_method_6_code
def yX4_readLine : MethodName := ⟨RX4, "readLine", "(LTownTable$Tape;LTownTable$Plan;)I"⟩
abbrev cX4_cellFault : ByteArray := prog_6_method_7_code
def yX4_cellFault : MethodName := ⟨RX4, "cellFault", "(LTownTable$Tape;LTownTable$Plan;)I"⟩
abbrev cX4_readWall : ByteArray := prog_6_method_8_code
def yX4_readWall : MethodName := ⟨RX4, "readWall", "(LTownTable$Tape;LTownTable$Plan;)I"⟩
abbrev cX4_readFigure : ByteArray := prog_6_method_9_code
def yX4_readFigure : MethodName := ⟨RX4, "readFigure", "(LTownTable$Tape;LTownTable$Plan;)I"⟩
abbrev cX4_readSeat : ByteArray := prog_6_method_10_code
def yX4_readSeat : MethodName := ⟨RX4, "readSeat", "(LTownTable$Tape;LTownTable$Plan;)I"⟩
abbrev cX4_readLight : ByteArray := prog_6_method_11_code
def yX4_readLight : MethodName := ⟨RX4, "readLight", "(LTownTable$Tape;LTownTable$Plan;)I"⟩
abbrev cX4_readRow : ByteArray := prog_6_method_12_code
def yX4_readRow : MethodName := ⟨RX4, "readRow", "(LTownTable$Tape;[III)I"⟩
abbrev cX4_readDull : ByteArray := prog_6_method_13_code
def yX4_readDull : MethodName := ⟨RX4, "readDull", "(LTownTable$Tape;LTownTable$Plan;)I"⟩
def RX5 : String := "TownTable$Rule"
def TX5 : u_T := fun k => match k with
  | 0 => ("TownTable$Rule", "stack", "[I", true)
  | 1 => ("TownTable$Rule", "code", "[I", true)
  | _ => ("TownTable$Rule", "size", "I", false)
def tyX5 : Nat → FieldType := fun k => match k with
  | 0 => .array .int
  | 1 => .array .int
  | _ => .int
abbrev wsX50 : List Cond := u_ws RX5 TX5 3
theorem nmX5 : ∀ a, a < 3 → ∀ b, b < 3 → a ≠ b → (TX5 a).2.1 ≠ (TX5 b).2.1 := by decide +kernel
theorem tyX5_ok : ∀ k, k < 3 → parseFieldDescriptor (TX5 k).2.2.1 = some (tyX5 k) := by decide +kernel
abbrev cX5_init : ByteArray := prog_7_method_1_code
def yX5_init : MethodName := ⟨RX5, "<init>", "()V"⟩
abbrev cX5_clear : ByteArray := prog_7_method_2_code
def yX5_clear : MethodName := ⟨RX5, "clear", "()V"⟩
abbrev cX5_isTold : ByteArray := prog_7_method_3_code
def yX5_isTold : MethodName := ⟨RX5, "isTold", "()Z"⟩
abbrev cX5_add : ByteArray := prog_7_method_4_code
def yX5_add : MethodName := ⟨RX5, "add", "(I)V"⟩
abbrev cX5_value : ByteArray := prog_7_method_5_code
def yX5_value : MethodName := ⟨RX5, "value", "([I)I"⟩
abbrev cX5_join : ByteArray := prog_7_method_6_code
def yX5_join : MethodName := ⟨RX5, "join", "(III)I"⟩
def RX6 : String := "TownTable$RuleReader"
def TX6 : u_T := fun k => match k with
  | 0 => ("TownTable$RuleReader", "waiting", "[I", true)
  | 1 => ("TownTable$RuleReader", "waits", "I", false)
  | 2 => ("TownTable$RuleReader", "depth", "I", false)
  | 3 => ("TownTable$RuleReader", "nots", "I", false)
  | 4 => ("TownTable$RuleReader", "beginsNot", "Z", false)
  | _ => ("TownTable$RuleReader", "partIsDue", "Z", false)
def tyX6 : Nat → FieldType := fun k => match k with
  | 0 => .array .int
  | 1 => .int
  | 2 => .int
  | 3 => .int
  | 4 => .boolean
  | _ => .boolean
abbrev wsX60 : List Cond := u_ws RX6 TX6 6
theorem nmX6 : ∀ a, a < 6 → ∀ b, b < 6 → a ≠ b → (TX6 a).2.1 ≠ (TX6 b).2.1 := by decide +kernel
theorem tyX6_ok : ∀ k, k < 6 → parseFieldDescriptor (TX6 k).2.2.1 = some (tyX6 k) := by decide +kernel
abbrev cX6_init : ByteArray := prog_8_method_1_code
def yX6_init : MethodName := ⟨RX6, "<init>", "()V"⟩
abbrev cX6_read : ByteArray := prog_8_method_2_code
def yX6_read : MethodName := ⟨RX6, "read", "(LTownTable$Tape;LTownTable$Rule;Z)I"⟩
abbrev cX6_isEnd : ByteArray := prog_8_method_3_code
def yX6_isEnd : MethodName := ⟨RX6, "isEnd", "(LTownTable$Tape;)Z"⟩
abbrev cX6_beginPart : ByteArray := prog_8_method_4_code
def yX6_beginPart : MethodName := ⟨RX6, "beginPart", "(Z)V"⟩
abbrev cX6_readPart : ByteArray := prog_8_method_5_code
def yX6_readPart : MethodName := ⟨RX6, "readPart", "(LTownTable$Tape;LTownTable$Rule;Z)I"⟩
abbrev cX6_readNumber : ByteArray := prog_8_method_6_code
def yX6_readNumber : MethodName := ⟨RX6, "readNumber", "(LTownTable$Tape;LTownTable$Rule;)I"⟩
abbrev cX6_readWord : ByteArray := prog_8_method_7_code
def yX6_readWord : MethodName := ⟨RX6, "readWord", "(LTownTable$Tape;LTownTable$Rule;Z)I"⟩
abbrev cX6_valueOf : ByteArray := prog_8_method_8_code
def yX6_valueOf : MethodName := ⟨RX6, "valueOf", "(LTownTable$Tape;Z)I"⟩
abbrev cX6_readOperator : ByteArray := prog_8_method_9_code
def yX6_readOperator : MethodName := ⟨RX6, "readOperator", "(LTownTable$Tape;LTownTable$Rule;)I"⟩
abbrev cX6_operatorOf : ByteArray := prog_8_method_10_code
def yX6_operatorOf : MethodName := ⟨RX6, "operatorOf", "(LTownTable$Tape;)I"⟩
abbrev cX6_rankOf : ByteArray := prog_8_method_11_code
def yX6_rankOf : MethodName := ⟨RX6, "rankOf", "(I)I"⟩
abbrev cX6_push : ByteArray := prog_8_method_12_code
def yX6_push : MethodName := ⟨RX6, "push", "(I)V"⟩
abbrev cX6_release : ByteArray := prog_8_method_13_code
def yX6_release : MethodName := ⟨RX6, "release", "(LTownTable$Rule;I)V"⟩
def RX7 : String := "TownTable$Seating"
def TX7 : u_T := fun k => match k with
  | 0 => ("TownTable$Seating", "farTo", "[I", true)
  | 1 => ("TownTable$Seating", "best", "[I", true)
  | 2 => ("TownTable$Seating", "seatOf", "[I", true)
  | 3 => ("TownTable$Seating", "placed", "I", false)
  | _ => ("TownTable$Seating", "far", "I", false)
def tyX7 : Nat → FieldType := fun k => match k with
  | 0 => .array .int
  | 1 => .array .int
  | 2 => .array .int
  | 3 => .int
  | _ => .int
abbrev wsX70 : List Cond := u_ws RX7 TX7 5
theorem nmX7 : ∀ a, a < 5 → ∀ b, b < 5 → a ≠ b → (TX7 a).2.1 ≠ (TX7 b).2.1 := by decide +kernel
theorem tyX7_ok : ∀ k, k < 5 → parseFieldDescriptor (TX7 k).2.2.1 = some (tyX7 k) := by decide +kernel
abbrev cX7_init : ByteArray := prog_9_method_1_code
def yX7_init : MethodName := ⟨RX7, "<init>", "()V"⟩
abbrev cX7_place : ByteArray := prog_9_method_2_code
def yX7_place : MethodName := ⟨RX7, "place", "(LTownTable$Plan;LTownTable$State;LTownTable$Ways;)V"⟩
abbrev cX7_measureAll : ByteArray := prog_9_method_3_code
def yX7_measureAll : MethodName := ⟨RX7, "measureAll", "(LTownTable$Plan;LTownTable$State;LTownTable$Ways;)V"⟩
abbrev cX7_bestFrom : ByteArray := prog_9_method_4_code
def yX7_bestFrom : MethodName := ⟨RX7, "bestFrom", "(LTownTable$Plan;II)I"⟩
abbrev cX7_worthAt : ByteArray := prog_9_method_5_code
def yX7_worthAt : MethodName := ⟨RX7, "worthAt", "(III)I"⟩
abbrev cX7_choose : ByteArray := prog_9_method_6_code
def yX7_choose : MethodName := ⟨RX7, "choose", "(LTownTable$Plan;)V"⟩
def RX8 : String := "TownTable$State"
def TX8 : u_T := fun k => match k with
  | 0 => ("TownTable$State", "hour", "I", false)
  | 1 => ("TownTable$State", "pence", "I", false)
  | 2 => ("TownTable$State", "walls", "J", false)
  | 3 => ("TownTable$State", "figures", "I", false)
  | 4 => ("TownTable$State", "cell", "[I", true)
  | 5 => ("TownTable$State", "sore", "[I", true)
  | 6 => ("TownTable$State", "held", "[I", true)
  | _ => ("TownTable$State", "lead", "[I", true)
def tyX8 : Nat → FieldType := fun k => match k with
  | 0 => .int
  | 1 => .int
  | 2 => .long
  | 3 => .int
  | 4 => .array .int
  | 5 => .array .int
  | 6 => .array .int
  | _ => .array .int
abbrev wsX80 : List Cond := u_ws RX8 TX8 8
theorem nmX8 : ∀ a, a < 8 → ∀ b, b < 8 → a ≠ b → (TX8 a).2.1 ≠ (TX8 b).2.1 := by decide +kernel
theorem tyX8_ok : ∀ k, k < 8 → parseFieldDescriptor (TX8 k).2.2.1 = some (tyX8 k) := by decide +kernel
abbrev cX8_init : ByteArray := prog_10_method_1_code
def yX8_init : MethodName := ⟨RX8, "<init>", "()V"⟩
abbrev cX8_begin : ByteArray := prog_10_method_2_code
def yX8_begin : MethodName := ⟨RX8, "begin", "(LTownTable$Plan;)V"⟩
abbrev cX8_copyFrom : ByteArray := prog_10_method_3_code
def yX8_copyFrom : MethodName := ⟨RX8, "copyFrom", "(LTownTable$State;)V"⟩
abbrev cX8_saveTo : ByteArray := prog_10_method_4_code
def yX8_saveTo : MethodName := ⟨RX8, "saveTo", "([II)V"⟩
abbrev cX8_loadFrom : ByteArray := prog_10_method_5_code
def yX8_loadFrom : MethodName := ⟨RX8, "loadFrom", "([II)V"⟩
abbrev cX8_isWall : ByteArray := prog_10_method_6_code
def yX8_isWall : MethodName := ⟨RX8, "isWall", "(I)Z"⟩
abbrev cX8_figuresAt : ByteArray := prog_10_method_7_code
def yX8_figuresAt : MethodName := ⟨RX8, "figuresAt", "(I)I"⟩
abbrev cX8_othersWith : ByteArray := prog_10_method_8_code
def yX8_othersWith : MethodName := ⟨RX8, "othersWith", "(I)I"⟩
abbrev cX8_aloneBits : ByteArray := prog_10_method_9_code
def yX8_aloneBits : MethodName := ⟨RX8, "aloneBits", "()I"⟩
abbrev cX8_placedAsBits : ByteArray := prog_10_method_10_code
def yX8_placedAsBits : MethodName := ⟨RX8, "placedAsBits", "(LTownTable$State;)I"⟩
abbrev cX8_isPlacedAs : ByteArray := prog_10_method_11_code
def yX8_isPlacedAs : MethodName := ⟨RX8, "isPlacedAs", "(LTownTable$State;)Z"⟩
abbrev cX8_places : ByteArray := prog_10_method_12_code
def yX8_places : MethodName := ⟨RX8, "places", "()J"⟩
abbrev cX8_soreOfAll : ByteArray := prog_10_method_13_code
def yX8_soreOfAll : MethodName := ⟨RX8, "soreOfAll", "()I"⟩
abbrev cX8_heldBits : ByteArray := prog_10_method_14_code
def yX8_heldBits : MethodName := ⟨RX8, "heldBits", "()I"⟩
def RX9 : String := "TownTable$Tape"
def TX9 : u_T := fun k => match k with
  | 0 => ("TownTable$Tape", "bytes", "[C", true)
  | 1 => ("TownTable$Tape", "size", "I", false)
  | 2 => ("TownTable$Tape", "length", "I", false)
  | 3 => ("TownTable$Tape", "place", "I", false)
  | 4 => ("TownTable$Tape", "end", "I", false)
  | 5 => ("TownTable$Tape", "kind", "I", false)
  | _ => ("TownTable$Tape", "number", "I", false)
def tyX9 : Nat → FieldType := fun k => match k with
  | 0 => .array .char
  | 1 => .int
  | 2 => .int
  | 3 => .int
  | 4 => .int
  | 5 => .int
  | _ => .int
abbrev wsX90 : List Cond := u_ws RX9 TX9 7
theorem nmX9 : ∀ a, a < 7 → ∀ b, b < 7 → a ≠ b → (TX9 a).2.1 ≠ (TX9 b).2.1 := by decide +kernel
theorem tyX9_ok : ∀ k, k < 7 → parseFieldDescriptor (TX9 k).2.2.1 = some (tyX9 k) := by decide +kernel
abbrev cX9_init : ByteArray := prog_11_method_1_code
def yX9_init : MethodName := ⟨RX9, "<init>", "()V"⟩
abbrev cX9_add : ByteArray := prog_11_method_2_code
def yX9_add : MethodName := ⟨RX9, "add", "(I)V"⟩
abbrev cX9_begin : ByteArray := prog_11_method_3_code
def yX9_begin : MethodName := ⟨RX9, "begin", "(I)V"⟩
abbrev cX9_advance : ByteArray := prog_11_method_4_code
def yX9_advance : MethodName := ⟨RX9, "advance", "()V"⟩
abbrev cX9_readNumber : ByteArray := prog_11_method_5_code
def yX9_readNumber : MethodName := ⟨RX9, "readNumber", "()V"⟩
abbrev cX9_isLetter : ByteArray := prog_11_method_6_code
def yX9_isLetter : MethodName := ⟨RX9, "isLetter", "(C)Z"⟩
abbrev cX9_isDigit : ByteArray := prog_11_method_7_code
def yX9_isDigit : MethodName := ⟨RX9, "isDigit", "(C)Z"⟩
abbrev cX9_hasManyDigits : ByteArray := prog_11_method_8_code
def yX9_hasManyDigits : MethodName := ⟨RX9, "hasManyDigits", "()Z"⟩
abbrev cX9_isNumber : ByteArray := prog_11_method_9_code
def yX9_isNumber : MethodName := ⟨RX9, "isNumber", "(I)Z"⟩
abbrev cX9_isSign : ByteArray := prog_11_method_10_code
def yX9_isSign : MethodName := ⟨RX9, "isSign", "(C)Z"⟩
abbrev cX9_sign : ByteArray := prog_11_method_11_code
def yX9_sign : MethodName := ⟨RX9, "sign", "()I"⟩
abbrev cX9_isWord : ByteArray := prog_11_method_12_code
def yX9_isWord : MethodName := ⟨RX9, "isWord", "(Ljava/lang/String;)Z"⟩
def RX10 : String := "TownTable$Ways"
def TX10 : u_T := fun k => match k with
  | 0 => ("TownTable$Ways", "far", "[I", true)
  | _ => ("TownTable$Ways", "queue", "[I", true)
def tyX10 : Nat → FieldType := fun k => match k with
  | 0 => .array .int
  | _ => .array .int
abbrev wsX100 : List Cond := u_ws RX10 TX10 2
theorem nmX10 : ∀ a, a < 2 → ∀ b, b < 2 → a ≠ b → (TX10 a).2.1 ≠ (TX10 b).2.1 := by decide +kernel
theorem tyX10_ok : ∀ k, k < 2 → parseFieldDescriptor (TX10 k).2.2.1 = some (tyX10 k) := by decide +kernel
abbrev cX10_init : ByteArray := prog_12_method_1_code
def yX10_init : MethodName := ⟨RX10, "<init>", "()V"⟩
abbrev cX10_measure : ByteArray := prog_12_method_2_code
def yX10_measure : MethodName := ⟨RX10, "measure", "(LTownTable$Plan;LTownTable$State;I)V"⟩
abbrev cX10_firstStep : ByteArray := prog_12_method_3_code
def yX10_firstStep : MethodName := ⟨RX10, "firstStep", "(LTownTable$Plan;LTownTable$State;I)I"⟩
abbrev cX10_parts : ByteArray := prog_12_method_4_code
def yX10_parts : MethodName := ⟨RX10, "parts", "(LTownTable$Plan;LTownTable$State;)I"⟩
abbrev cX10_seenFrom : ByteArray := prog_12_method_5_code
def yX10_seenFrom : MethodName := ⟨RX10, "seenFrom", "(LTownTable$Plan;LTownTable$State;I)I"⟩
def RX11 : String := "TownTable"
def TX11 : u_T := fun k => match k with
  | 0 => ("TownTable", "tape", "LTownTable$Tape;", true)
  | 1 => ("TownTable", "reader", "LTownTable$PlanReader;", true)
  | 2 => ("TownTable", "faultPlace", "I", false)
  | 3 => ("TownTable", "refused", "[I", true)
  | 4 => ("TownTable", "plan", "LTownTable$Plan;", false)
  | 5 => ("TownTable", "spare", "LTownTable$Plan;", false)
  | 6 => ("TownTable", "now", "LTownTable$State;", true)
  | 7 => ("TownTable", "diary", "LTownTable$Diary;", true)
  | 8 => ("TownTable", "imaged", "Z", false)
  | 9 => ("TownTable", "imageState", "LTownTable$State;", true)
  | 10 => ("TownTable", "imageDiary", "LTownTable$Diary;", true)
  | 11 => ("TownTable", "mover", "LTownTable$Mover;", true)
  | 12 => ("TownTable", "future", "LTownTable$State;", true)
  | 13 => ("TownTable", "ways", "LTownTable$Ways;", true)
  | 14 => ("TownTable", "seating", "LTownTable$Seating;", true)
  | 15 => ("TownTable", "guesses", "LTownTable$Guesses;", true)
  | 16 => ("TownTable", "visits", "[I", true)
  | 17 => ("TownTable", "met", "[I", true)
  | 18 => ("TownTable", "gains", "[I", true)
  | _ => ("TownTable", "seed", "I", false)
def tyX11 : Nat → FieldType := fun k => match k with
  | 0 => .object "TownTable$Tape"
  | 1 => .object "TownTable$PlanReader"
  | 2 => .int
  | 3 => .array .int
  | 4 => .object "TownTable$Plan"
  | 5 => .object "TownTable$Plan"
  | 6 => .object "TownTable$State"
  | 7 => .object "TownTable$Diary"
  | 8 => .boolean
  | 9 => .object "TownTable$State"
  | 10 => .object "TownTable$Diary"
  | 11 => .object "TownTable$Mover"
  | 12 => .object "TownTable$State"
  | 13 => .object "TownTable$Ways"
  | 14 => .object "TownTable$Seating"
  | 15 => .object "TownTable$Guesses"
  | 16 => .array .int
  | 17 => .array .int
  | 18 => .array .int
  | _ => .int
abbrev wsX110 : List Cond := u_ws RX11 TX11 20
theorem nmX11 : ∀ a, a < 20 → ∀ b, b < 20 → a ≠ b → (TX11 a).2.1 ≠ (TX11 b).2.1 := by decide +kernel
theorem tyX11_ok : ∀ k, k < 20 → parseFieldDescriptor (TX11 k).2.2.1 = some (tyX11 k) := by decide +kernel
abbrev cX11_init : ByteArray := prog_1_method_1_code
def yX11_init : MethodName := ⟨RX11, "<init>", "()V"⟩
abbrev cX11_feed : ByteArray := prog_1_method_2_code
def yX11_feed : MethodName := ⟨RX11, "feed", "(IIIII)I"⟩
abbrev cX11_town : ByteArray := prog_1_method_3_code
def yX11_town : MethodName := ⟨RX11, "town", "(I)I"⟩
abbrev cX11_fault : ByteArray := prog_1_method_4_code
def yX11_fault : MethodName := ⟨RX11, "fault", "()I"⟩
abbrev cX11_count : ByteArray := prog_1_method_5_code
def yX11_count : MethodName := ⟨RX11, "count", "(I)I"⟩
abbrev cX11_figure : ByteArray := prog_1_method_6_code
def yX11_figure : MethodName := ⟨RX11, "figure", "(II)I"⟩
abbrev cX11_cell : ByteArray := prog_1_method_7_code
def yX11_cell : MethodName := ⟨RX11, "cell", "(II)I"⟩
abbrev cX11_hours : ByteArray := prog_1_method_8_code
def yX11_hours : MethodName := ⟨RX11, "hours", "(I)I"⟩
abbrev cX11_stop : ByteArray := prog_1_method_9_code
def yX11_stop : MethodName := ⟨RX11, "stop", "(II)I"⟩
abbrev cX11_lift : ByteArray := prog_1_method_10_code
def yX11_lift : MethodName := ⟨RX11, "lift", "(II)I"⟩
abbrev cX11_brush : ByteArray := prog_1_method_11_code
def yX11_brush : MethodName := ⟨RX11, "brush", "(I)I"⟩
abbrev cX11_wall : ByteArray := prog_1_method_12_code
def yX11_wall : MethodName := ⟨RX11, "wall", "(IZ)Z"⟩
abbrev cX11_undo : ByteArray := prog_1_method_13_code
def yX11_undo : MethodName := ⟨RX11, "undo", "()I"⟩
abbrev cX11_then : ByteArray := prog_1_method_14_code
def yX11_then : MethodName := ⟨RX11, "then", "(III)I"⟩
abbrev cX11_comes : ByteArray := prog_1_method_15_code
def yX11_comes : MethodName := ⟨RX11, "comes", "(II)I"⟩
abbrev cX11_meet : ByteArray := prog_1_method_16_code
def yX11_meet : MethodName := ⟨RX11, "meet", "(II)I"⟩
abbrev cX11_crowd : ByteArray := prog_1_method_17_code
def yX11_crowd : MethodName := ⟨RX11, "crowd", "(II)I"⟩
abbrev cX11_round : ByteArray := prog_1_method_18_code
def yX11_round : MethodName := ⟨RX11, "round", "()I"⟩
abbrev cX11_spread : ByteArray := prog_1_method_19_code
def yX11_spread : MethodName := ⟨RX11, "spread", "(II)I"⟩
abbrev cX11_way : ByteArray := prog_1_method_20_code
def yX11_way : MethodName := ⟨RX11, "way", "(III)I"⟩
abbrev cX11_toStop : ByteArray := prog_1_method_21_code
def yX11_toStop : MethodName := ⟨RX11, "toStop", "(III)I"⟩
abbrev cX11_toThin : ByteArray := prog_1_method_22_code
def yX11_toThin : MethodName := ⟨RX11, "toThin", "(I)I"⟩
abbrev cX11_seats : ByteArray := prog_1_method_23_code
def yX11_seats : MethodName := ⟨RX11, "seats", "(I)I"⟩
abbrev cX11_seat : ByteArray := prog_1_method_24_code
def yX11_seat : MethodName := ⟨RX11, "seat", "(I)I"⟩
abbrev cX11_note : ByteArray := prog_1_method_25_code
def yX11_note : MethodName := ⟨RX11, "note", "(III)I"⟩
abbrev cX11_forget : ByteArray := prog_1_method_26_code
def yX11_forget : MethodName := ⟨RX11, "forget", "()V"⟩
abbrev cX11_ahead : ByteArray := prog_1_method_27_code
def yX11_ahead : MethodName := ⟨RX11, "ahead", "(I)I"⟩
abbrev cX11_look : ByteArray := prog_1_method_28_code
def yX11_look : MethodName := ⟨RX11, "look", "(I)I"⟩
abbrev cX11_clouds : ByteArray := prog_1_method_29_code
def yX11_clouds : MethodName := ⟨RX11, "clouds", "(IIII)I"⟩
abbrev cX11_game : ByteArray := prog_1_method_30_code
def yX11_game : MethodName := ⟨RX11, "game", "(III)I"⟩
abbrev cX11_years : ByteArray := prog_1_method_31_code
def yX11_years : MethodName := ⟨RX11, "years", "(III)I"⟩
abbrev cX11_later : ByteArray := prog_1_method_32_code
def yX11_later : MethodName := ⟨RX11, "later", "(II)I"⟩
abbrev cX11_together : ByteArray := prog_1_method_33_code
def yX11_together : MethodName := ⟨RX11, "together", "(III)I"⟩
abbrev cX11_quiet : ByteArray := prog_1_method_34_code
def yX11_quiet : MethodName := ⟨RX11, "quiet", "(II)I"⟩
abbrev cX11_gone : ByteArray := prog_1_method_35_code
def yX11_gone : MethodName := ⟨RX11, "gone", "(II)I"⟩
abbrev cX11_image : ByteArray := prog_1_method_36_code
def yX11_image : MethodName := ⟨RX11, "image", "()V"⟩
abbrev cX11_restore : ByteArray := prog_1_method_37_code
def yX11_restore : MethodName := ⟨RX11, "restore", "()Z"⟩
abbrev cX11_checkFigure : ByteArray := prog_1_method_38_code
def yX11_checkFigure : MethodName := ⟨RX11, "checkFigure", "(I)V"⟩
abbrev cX11_checkCell : ByteArray := prog_1_method_39_code
def yX11_checkCell : MethodName := ⟨RX11, "checkCell", "(I)V"⟩
abbrev cX11_checkWhat : ByteArray := prog_1_method_40_code
def yX11_checkWhat : MethodName := ⟨RX11, "checkWhat", "(II)V"⟩
abbrev cX11_checkHours : ByteArray := prog_1_method_41_code
def yX11_checkHours : MethodName := ⟨RX11, "checkHours", "(III)V"⟩
abbrev cX11_refuseAct : ByteArray := prog_1_method_42_code
def yX11_refuseAct : MethodName := ⟨RX11, "refuseAct", "()I"⟩
abbrev cX11_pay : ByteArray := prog_1_method_43_code
def yX11_pay : MethodName := ⟨RX11, "pay", "(I)V"⟩
abbrev cX11_foresee : ByteArray := prog_1_method_44_code
def yX11_foresee : MethodName := ⟨RX11, "foresee", "(I)V"⟩
abbrev cX11_passFuture : ByteArray := prog_1_method_45_code
def yX11_passFuture : MethodName := ⟨RX11, "passFuture", "()V"⟩
abbrev cX11_addMeetings : ByteArray := prog_1_method_46_code
def yX11_addMeetings : MethodName := ⟨RX11, "addMeetings", "()V"⟩
abbrev cX11_noneMeets : ByteArray := prog_1_method_47_code
def yX11_noneMeets : MethodName := ⟨RX11, "noneMeets", "(I)Z"⟩
abbrev cX11_play : ByteArray := prog_1_method_48_code
def yX11_play : MethodName := ⟨RX11, "play", "(III)V"⟩
abbrev cX11_rests : ByteArray := prog_1_method_49_code
def yX11_rests : MethodName := ⟨RX11, "rests", "(I)Z"⟩
abbrev cX11_draw : ByteArray := prog_1_method_50_code
def yX11_draw : MethodName := ⟨RX11, "draw", "(I)I"⟩
abbrev cX11_drawFate : ByteArray := prog_1_method_51_code
def yX11_drawFate : MethodName := ⟨RX11, "drawFate", "()V"⟩
abbrev cX11_busiest : ByteArray := prog_1_method_52_code
def yX11_busiest : MethodName := ⟨RX11, "busiest", "(I)I"⟩
abbrev cX11_sorest : ByteArray := prog_1_method_53_code
def yX11_sorest : MethodName := ⟨RX11, "sorest", "(I)I"⟩
abbrev cX11_alone : ByteArray := prog_1_method_54_code
def yX11_alone : MethodName := ⟨RX11, "alone", "(I)I"⟩
abbrev cX11_stuck : ByteArray := prog_1_method_55_code
def yX11_stuck : MethodName := ⟨RX11, "stuck", "(I)I"⟩
def RX12 : String := "TownTableModel"
def TX12 : u_T := fun k => match k with
  | 0 => ("TownTableModel", "thrown", "I", false)
  | 1 => ("TownTableModel", "wide", "I", false)
  | 2 => ("TownTableModel", "tall", "I", false)
  | 3 => ("TownTableModel", "figures", "I", false)
  | 4 => ("TownTableModel", "seats", "I", false)
  | 5 => ("TownTableModel", "lightLong", "I", false)
  | 6 => ("TownTableModel", "dull", "I", false)
  | 7 => ("TownTableModel", "goesAt", "I", false)
  | 8 => ("TownTableModel", "hurtsAt", "I", false)
  | 9 => ("TownTableModel", "wayLong", "[I", true)
  | 10 => ("TownTableModel", "ways", "[I", true)
  | 11 => ("TownTableModel", "seatAt", "[I", true)
  | 12 => ("TownTableModel", "light", "[I", true)
  | 13 => ("TownTableModel", "code", "[I", true)
  | 14 => ("TownTableModel", "tape", "[I", true)
  | 15 => ("TownTableModel", "taped", "I", false)
  | 16 => ("TownTableModel", "faultKind", "I", false)
  | 17 => ("TownTableModel", "faultPlace", "I", false)
  | 18 => ("TownTableModel", "refused", "[I", true)
  | 19 => ("TownTableModel", "long1", "I", false)
  | 20 => ("TownTableModel", "next0", "I", false)
  | 21 => ("TownTableModel", "sort", "I", false)
  | 22 => ("TownTableModel", "place", "I", false)
  | 23 => ("TownTableModel", "long0", "I", false)
  | 24 => ("TownTableModel", "value", "I", false)
  | 25 => ("TownTableModel", "sign", "I", false)
  | 26 => ("TownTableModel", "word", "J", false)
  | 27 => ("TownTableModel", "newWide", "I", false)
  | 28 => ("TownTableModel", "newTall", "I", false)
  | 29 => ("TownTableModel", "newFigures", "I", false)
  | 30 => ("TownTableModel", "newSeats", "I", false)
  | 31 => ("TownTableModel", "newLightLong", "I", false)
  | 32 => ("TownTableModel", "newDull", "I", false)
  | 33 => ("TownTableModel", "newGoesAt", "I", false)
  | 34 => ("TownTableModel", "newHurtsAt", "I", false)
  | 35 => ("TownTableModel", "top", "I", false)
  | 36 => ("TownTableModel", "firstValue", "I", false)
  | 37 => ("TownTableModel", "lastValue", "I", false)
  | 38 => ("TownTableModel", "waiting", "I", false)
  | 39 => ("TownTableModel", "depth", "I", false)
  | 40 => ("TownTableModel", "newWayLong", "[I", true)
  | 41 => ("TownTableModel", "newWays", "[I", true)
  | 42 => ("TownTableModel", "newSeatAt", "[I", true)
  | 43 => ("TownTableModel", "newLight", "[I", true)
  | 44 => ("TownTableModel", "newRow", "[I", true)
  | 45 => ("TownTableModel", "readCode", "[I", true)
  | 46 => ("TownTableModel", "waits", "[I", true)
  | 47 => ("TownTableModel", "tested", "[Z", true)
  | 48 => ("TownTableModel", "rows", "[I", true)
  | 49 => ("TownTableModel", "kept0", "[I", true)
  | 50 => ("TownTableModel", "acts", "I", false)
  | 51 => ("TownTableModel", "told", "[I", true)
  | 52 => ("TownTableModel", "pile", "[I", true)
  | 53 => ("TownTableModel", "dullAs", "I", false)
  | 54 => ("TownTableModel", "far", "[I", true)
  | 55 => ("TownTableModel", "queue", "[I", true)
  | 56 => ("TownTableModel", "often", "[I", true)
  | 57 => ("TownTableModel", "meets", "[I", true)
  | 58 => ("TownTableModel", "seatFar", "[I", true)
  | 59 => ("TownTableModel", "least", "[I", true)
  | 60 => ("TownTableModel", "notedMany", "I", false)
  | 61 => ("TownTableModel", "noted", "[I", true)
  | 62 => ("TownTableModel", "soon", "[I", true)
  | 63 => ("TownTableModel", "soonAll", "[I", true)
  | 64 => ("TownTableModel", "its0", "I", false)
  | 65 => ("TownTableModel", "hasImage", "Z", false)
  | 66 => ("TownTableModel", "imageActs", "I", false)
  | 67 => ("TownTableModel", "imageNoted", "I", false)
  | 68 => ("TownTableModel", "imageRow", "[I", true)
  | 69 => ("TownTableModel", "imageKept", "[I", true)
  | _ => ("TownTableModel", "imageNotes", "[I", true)
def tyX12 : Nat → FieldType := fun k => match k with
  | 0 => .int
  | 1 => .int
  | 2 => .int
  | 3 => .int
  | 4 => .int
  | 5 => .int
  | 6 => .int
  | 7 => .int
  | 8 => .int
  | 9 => .array .int
  | 10 => .array .int
  | 11 => .array .int
  | 12 => .array .int
  | 13 => .array .int
  | 14 => .array .int
  | 15 => .int
  | 16 => .int
  | 17 => .int
  | 18 => .array .int
  | 19 => .int
  | 20 => .int
  | 21 => .int
  | 22 => .int
  | 23 => .int
  | 24 => .int
  | 25 => .int
  | 26 => .long
  | 27 => .int
  | 28 => .int
  | 29 => .int
  | 30 => .int
  | 31 => .int
  | 32 => .int
  | 33 => .int
  | 34 => .int
  | 35 => .int
  | 36 => .int
  | 37 => .int
  | 38 => .int
  | 39 => .int
  | 40 => .array .int
  | 41 => .array .int
  | 42 => .array .int
  | 43 => .array .int
  | 44 => .array .int
  | 45 => .array .int
  | 46 => .array .int
  | 47 => .array .boolean
  | 48 => .array .int
  | 49 => .array .int
  | 50 => .int
  | 51 => .array .int
  | 52 => .array .int
  | 53 => .int
  | 54 => .array .int
  | 55 => .array .int
  | 56 => .array .int
  | 57 => .array .int
  | 58 => .array .int
  | 59 => .array .int
  | 60 => .int
  | 61 => .array .int
  | 62 => .array .int
  | 63 => .array .int
  | 64 => .int
  | 65 => .boolean
  | 66 => .int
  | 67 => .int
  | 68 => .array .int
  | 69 => .array .int
  | _ => .array .int
abbrev wsX120 : List Cond := u_ws RX12 TX12 71
theorem nmX12 : ∀ a, a < 71 → ∀ b, b < 71 → a ≠ b → (TX12 a).2.1 ≠ (TX12 b).2.1 := by decide +kernel
theorem tyX12_ok : ∀ k, k < 71 → parseFieldDescriptor (TX12 k).2.2.1 = some (tyX12 k) := by decide +kernel
abbrev cX12_init : ByteArray := prog_14_method_1_code
def yX12_init : MethodName := ⟨RX12, "<init>", "()V"⟩
abbrev cX12_thrown : ByteArray := prog_14_method_2_code
def yX12_thrown : MethodName := ⟨RX12, "thrown", "()I"⟩
abbrev cX12_right : ByteArray := prog_14_method_3_code
def yX12_right : MethodName := ⟨RX12, "right", "(ZI)Z"⟩
abbrev cX12_within : ByteArray := prog_14_method_4_code
def yX12_within : MethodName := ⟨RX12, "within", "(III)Z"⟩
abbrev cX12_bounded : ByteArray := prog_14_method_5_code
def yX12_bounded : MethodName := ⟨RX12, "bounded", "(III)I"⟩
abbrev cX12_lesser : ByteArray := prog_14_method_6_code
def yX12_lesser : MethodName := ⟨RX12, "lesser", "(II)I"⟩
abbrev cX12_copies : ByteArray := prog_14_method_7_code
def yX12_copies : MethodName := ⟨RX12, "copies", "([I[I)V"⟩
abbrev cX12_bits : ByteArray := prog_14_method_8_code
def yX12_bits : MethodName := ⟨RX12, "bits", "(I)I"⟩
abbrev cX12_feed : ByteArray := prog_14_method_9_code
def yX12_feed : MethodName := ⟨RX12, "feed", "(IIIII)I"⟩
abbrev cX12_lays : ByteArray := prog_14_method_10_code
def yX12_lays : MethodName := ⟨RX12, "lays", "(I)V"⟩
abbrev cX12_byteAt : ByteArray := prog_14_method_11_code
def yX12_byteAt : MethodName := ⟨RX12, "byteAt", "(I)I"⟩
abbrev cX12_isLetter : ByteArray := prog_14_method_12_code
def yX12_isLetter : MethodName := ⟨RX12, "isLetter", "(I)Z"⟩
abbrev cX12_isDigit : ByteArray := prog_14_method_13_code
def yX12_isDigit : MethodName := ⟨RX12, "isDigit", "(I)Z"⟩
abbrev cX12_goes : ByteArray := prog_14_method_14_code
def yX12_goes : MethodName := ⟨RX12, "goes", "()V"⟩
abbrev cX12_spelled : ByteArray := prog_14_method_15_code
def yX12_spelled : MethodName := ⟨RX12, "spelled", "(IIIIII)J"⟩
abbrev cX12_letters : ByteArray := prog_14_method_16_code
def yX12_letters : MethodName := ⟨RX12, "letters", "(I)J"⟩
abbrev cX12_knownWord : ByteArray := prog_14_method_17_code
def yX12_knownWord : MethodName := ⟨RX12, "knownWord", "()I"⟩
abbrev cX12_wrong : ByteArray := prog_14_method_18_code
def yX12_wrong : MethodName := ⟨RX12, "wrong", "(I)V"⟩
abbrev cX12_isGood : ByteArray := prog_14_method_19_code
def yX12_isGood : MethodName := ⟨RX12, "isGood", "()Z"⟩
abbrev cX12_isSign : ByteArray := prog_14_method_20_code
def yX12_isSign : MethodName := ⟨RX12, "isSign", "(I)Z"⟩
abbrev cX12_need : ByteArray := prog_14_method_21_code
def yX12_need : MethodName := ⟨RX12, "need", "(Z)V"⟩
abbrev cX12_number : ByteArray := prog_14_method_22_code
def yX12_number : MethodName := ⟨RX12, "number", "(II)I"⟩
abbrev cX12_cellHere : ByteArray := prog_14_method_23_code
def yX12_cellHere : MethodName := ⟨RX12, "cellHere", "()I"⟩
abbrev cX12_puts : ByteArray := prog_14_method_24_code
def yX12_puts : MethodName := ⟨RX12, "puts", "(I)V"⟩
abbrev cX12_isOpen : ByteArray := prog_14_method_25_code
def yX12_isOpen : MethodName := ⟨RX12, "isOpen", "(I)Z"⟩
abbrev cX12_strength : ByteArray := prog_14_method_26_code
def yX12_strength : MethodName := ⟨RX12, "strength", "(I)I"⟩
abbrev cX12_drops : ByteArray := prog_14_method_27_code
def yX12_drops : MethodName := ⟨RX12, "drops", "(I)V"⟩
abbrev cX12_waitsFor : ByteArray := prog_14_method_28_code
def yX12_waitsFor : MethodName := ⟨RX12, "waitsFor", "(I)V"⟩
abbrev cX12_part : ByteArray := prog_14_method_29_code
def yX12_part : MethodName := ⟨RX12, "part", "()V"⟩
abbrev cX12_deeper : ByteArray := prog_14_method_30_code
def yX12_deeper : MethodName := ⟨RX12, "deeper", "()V"⟩
abbrev cX12_operand : ByteArray := prog_14_method_31_code
def yX12_operand : MethodName := ⟨RX12, "operand", "(Z)V"⟩
abbrev cX12_isOpened : ByteArray := prog_14_method_32_code
def yX12_isOpened : MethodName := ⟨RX12, "isOpened", "()Z"⟩
abbrev cX12_closes : ByteArray := prog_14_method_33_code
def yX12_closes : MethodName := ⟨RX12, "closes", "()V"⟩
abbrev cX12_expression : ByteArray := prog_14_method_34_code
def yX12_expression : MethodName := ⟨RX12, "expression", "(II)V"⟩
abbrev cX12_begins : ByteArray := prog_14_method_35_code
def yX12_begins : MethodName := ⟨RX12, "begins", "(ZZ)Z"⟩
abbrev cX12_readsWall : ByteArray := prog_14_method_36_code
def yX12_readsWall : MethodName := ⟨RX12, "readsWall", "()V"⟩
abbrev cX12_readsFigure : ByteArray := prog_14_method_37_code
def yX12_readsFigure : MethodName := ⟨RX12, "readsFigure", "()V"⟩
abbrev cX12_readsSeat : ByteArray := prog_14_method_38_code
def yX12_readsSeat : MethodName := ⟨RX12, "readsSeat", "()V"⟩
abbrev cX12_readsLight : ByteArray := prog_14_method_39_code
def yX12_readsLight : MethodName := ⟨RX12, "readsLight", "()V"⟩
abbrev cX12_line : ByteArray := prog_14_method_40_code
def yX12_line : MethodName := ⟨RX12, "line", "()V"⟩
abbrev cX12_town : ByteArray := prog_14_method_41_code
def yX12_town : MethodName := ⟨RX12, "town", "(I)I"⟩
abbrev cX12_fault : ByteArray := prog_14_method_42_code
def yX12_fault : MethodName := ⟨RX12, "fault", "()I"⟩
abbrev cX12_keeps : ByteArray := prog_14_method_43_code
def yX12_keeps : MethodName := ⟨RX12, "keeps", "()V"⟩
abbrev cX12_refuses : ByteArray := prog_14_method_44_code
def yX12_refuses : MethodName := ⟨RX12, "refuses", "(I)I"⟩
abbrev cX12_undo : ByteArray := prog_14_method_45_code
def yX12_undo : MethodName := ⟨RX12, "undo", "()I"⟩
abbrev cX12_tries : ByteArray := prog_14_method_46_code
def yX12_tries : MethodName := ⟨RX12, "tries", "()V"⟩
abbrev cX12_works : ByteArray := prog_14_method_47_code
def yX12_works : MethodName := ⟨RX12, "works", "(III)I"⟩
abbrev cX12_reckons : ByteArray := prog_14_method_48_code
def yX12_reckons : MethodName := ⟨RX12, "reckons", "(I)I"⟩
abbrev cX12_lightAt : ByteArray := prog_14_method_49_code
def yX12_lightAt : MethodName := ⟨RX12, "lightAt", "(I)I"⟩
abbrev cX12_isDull : ByteArray := prog_14_method_50_code
def yX12_isDull : MethodName := ⟨RX12, "isDull", "(I)Z"⟩
abbrev cX12_atCell : ByteArray := prog_14_method_51_code
def yX12_atCell : MethodName := ⟨RX12, "atCell", "(II)I"⟩
abbrev cX12_withIt : ByteArray := prog_14_method_52_code
def yX12_withIt : MethodName := ⟨RX12, "withIt", "(II)I"⟩
abbrev cX12_stepOf : ByteArray := prog_14_method_53_code
def yX12_stepOf : MethodName := ⟨RX12, "stepOf", "(II)I"⟩
abbrev cX12_tells : ByteArray := prog_14_method_54_code
def yX12_tells : MethodName := ⟨RX12, "tells", "(II)V"⟩
abbrev cX12_hurtsBy : ByteArray := prog_14_method_55_code
def yX12_hurtsBy : MethodName := ⟨RX12, "hurtsBy", "(II)I"⟩
abbrev cX12_isGoing : ByteArray := prog_14_method_56_code
def yX12_isGoing : MethodName := ⟨RX12, "isGoing", "(II)Z"⟩
abbrev cX12_beside : ByteArray := prog_14_method_57_code
def yX12_beside : MethodName := ⟨RX12, "beside", "(II)I"⟩
abbrev cX12_figureGoes : ByteArray := prog_14_method_58_code
def yX12_figureGoes : MethodName := ⟨RX12, "figureGoes", "(II)V"⟩
abbrev cX12_hourGoes : ByteArray := prog_14_method_59_code
def yX12_hourGoes : MethodName := ⟨RX12, "hourGoes", "(I)V"⟩
abbrev cX12_hoursGo : ByteArray := prog_14_method_60_code
def yX12_hoursGo : MethodName := ⟨RX12, "hoursGo", "(I)V"⟩
abbrev cX12_sumOf : ByteArray := prog_14_method_61_code
def yX12_sumOf : MethodName := ⟨RX12, "sumOf", "(III)I"⟩
abbrev cX12_heldOnes : ByteArray := prog_14_method_62_code
def yX12_heldOnes : MethodName := ⟨RX12, "heldOnes", "()I"⟩
abbrev cX12_laysFar : ByteArray := prog_14_method_63_code
def yX12_laysFar : MethodName := ⟨RX12, "laysFar", "(I)V"⟩
abbrev cX12_parts : ByteArray := prog_14_method_64_code
def yX12_parts : MethodName := ⟨RX12, "parts", "()I"⟩
abbrev cX12_count : ByteArray := prog_14_method_65_code
def yX12_count : MethodName := ⟨RX12, "count", "(I)I"⟩
abbrev cX12_isFigure : ByteArray := prog_14_method_66_code
def yX12_isFigure : MethodName := ⟨RX12, "isFigure", "(I)Z"⟩
abbrev cX12_isCell : ByteArray := prog_14_method_67_code
def yX12_isCell : MethodName := ⟨RX12, "isCell", "(I)Z"⟩
abbrev cX12_isWhat : ByteArray := prog_14_method_68_code
def yX12_isWhat : MethodName := ⟨RX12, "isWhat", "(II)Z"⟩
abbrev cX12_isSoon : ByteArray := prog_14_method_69_code
def yX12_isSoon : MethodName := ⟨RX12, "isSoon", "(III)Z"⟩
abbrev cX12_figure : ByteArray := prog_14_method_70_code
def yX12_figure : MethodName := ⟨RX12, "figure", "(II)I"⟩
abbrev cX12_seenFrom : ByteArray := prog_14_method_71_code
def yX12_seenFrom : MethodName := ⟨RX12, "seenFrom", "(I)I"⟩
abbrev cX12_cell : ByteArray := prog_14_method_72_code
def yX12_cell : MethodName := ⟨RX12, "cell", "(II)I"⟩
abbrev cX12_hours : ByteArray := prog_14_method_73_code
def yX12_hours : MethodName := ⟨RX12, "hours", "(I)I"⟩
abbrev cX12_stop : ByteArray := prog_14_method_74_code
def yX12_stop : MethodName := ⟨RX12, "stop", "(II)I"⟩
abbrev cX12_lift : ByteArray := prog_14_method_75_code
def yX12_lift : MethodName := ⟨RX12, "lift", "(II)I"⟩
abbrev cX12_brush : ByteArray := prog_14_method_76_code
def yX12_brush : MethodName := ⟨RX12, "brush", "(I)I"⟩
abbrev cX12_wall : ByteArray := prog_14_method_77_code
def yX12_wall : MethodName := ⟨RX12, "wall", "(IZ)Z"⟩
abbrev cX12_goesTo : ByteArray := prog_14_method_78_code
def yX12_goesTo : MethodName := ⟨RX12, "goesTo", "(I)V"⟩
abbrev cX12_then : ByteArray := prog_14_method_79_code
def yX12_then : MethodName := ⟨RX12, "then", "(III)I"⟩
abbrev cX12_comes : ByteArray := prog_14_method_80_code
def yX12_comes : MethodName := ⟨RX12, "comes", "(II)I"⟩
abbrev cX12_meet : ByteArray := prog_14_method_81_code
def yX12_meet : MethodName := ⟨RX12, "meet", "(II)I"⟩
abbrev cX12_mostOften : ByteArray := prog_14_method_82_code
def yX12_mostOften : MethodName := ⟨RX12, "mostOften", "()I"⟩
abbrev cX12_clears : ByteArray := prog_14_method_83_code
def yX12_clears : MethodName := ⟨RX12, "clears", "()V"⟩
abbrev cX12_marks : ByteArray := prog_14_method_84_code
def yX12_marks : MethodName := ⟨RX12, "marks", "()V"⟩
abbrev cX12_crowd : ByteArray := prog_14_method_85_code
def yX12_crowd : MethodName := ⟨RX12, "crowd", "(II)I"⟩
abbrev cX12_areAsNow : ByteArray := prog_14_method_86_code
def yX12_areAsNow : MethodName := ⟨RX12, "areAsNow", "()Z"⟩
abbrev cX12_round : ByteArray := prog_14_method_87_code
def yX12_round : MethodName := ⟨RX12, "round", "()I"⟩
abbrev cX12_spread : ByteArray := prog_14_method_88_code
def yX12_spread : MethodName := ⟨RX12, "spread", "(II)I"⟩
abbrev cX12_later : ByteArray := prog_14_method_89_code
def yX12_later : MethodName := ⟨RX12, "later", "(II)I"⟩
abbrev cX12_together : ByteArray := prog_14_method_90_code
def yX12_together : MethodName := ⟨RX12, "together", "(III)I"⟩
abbrev cX12_quiet : ByteArray := prog_14_method_91_code
def yX12_quiet : MethodName := ⟨RX12, "quiet", "(II)I"⟩
abbrev cX12_gone : ByteArray := prog_14_method_92_code
def yX12_gone : MethodName := ⟨RX12, "gone", "(II)I"⟩
abbrev cX12_way : ByteArray := prog_14_method_93_code
def yX12_way : MethodName := ⟨RX12, "way", "(III)I"⟩
abbrev cX12_toStop : ByteArray := prog_14_method_94_code
def yX12_toStop : MethodName := ⟨RX12, "toStop", "(III)I"⟩
abbrev cX12_toThin : ByteArray := prog_14_method_95_code
def yX12_toThin : MethodName := ⟨RX12, "toThin", "(I)I"⟩
abbrev cX12_sits : ByteArray := prog_14_method_96_code
def yX12_sits : MethodName := ⟨RX12, "sits", "(III)I"⟩
abbrev cX12_canSit : ByteArray := prog_14_method_97_code
def yX12_canSit : MethodName := ⟨RX12, "canSit", "(III)Z"⟩
abbrev cX12_laysSeats : ByteArray := prog_14_method_98_code
def yX12_laysSeats : MethodName := ⟨RX12, "laysSeats", "()V"⟩
abbrev cX12_seats : ByteArray := prog_14_method_99_code
def yX12_seats : MethodName := ⟨RX12, "seats", "(I)I"⟩
abbrev cX12_seat : ByteArray := prog_14_method_100_code
def yX12_seat : MethodName := ⟨RX12, "seat", "(I)I"⟩
abbrev cX12_note : ByteArray := prog_14_method_101_code
def yX12_note : MethodName := ⟨RX12, "note", "(III)I"⟩
abbrev cX12_forget : ByteArray := prog_14_method_102_code
def yX12_forget : MethodName := ⟨RX12, "forget", "()V"⟩
abbrev cX12_isNoted : ByteArray := prog_14_method_103_code
def yX12_isNoted : MethodName := ⟨RX12, "isNoted", "()Z"⟩
abbrev cX12_isGuess : ByteArray := prog_14_method_104_code
def yX12_isGuess : MethodName := ⟨RX12, "isGuess", "(I)Z"⟩
abbrev cX12_ahead : ByteArray := prog_14_method_105_code
def yX12_ahead : MethodName := ⟨RX12, "ahead", "(I)I"⟩
abbrev cX12_look : ByteArray := prog_14_method_106_code
def yX12_look : MethodName := ⟨RX12, "look", "(I)I"⟩
abbrev cX12_clouds : ByteArray := prog_14_method_107_code
def yX12_clouds : MethodName := ⟨RX12, "clouds", "(IIII)I"⟩
abbrev cX12_gains : ByteArray := prog_14_method_108_code
def yX12_gains : MethodName := ⟨RX12, "gains", "(IIII)I"⟩
abbrev cX12_game : ByteArray := prog_14_method_109_code
def yX12_game : MethodName := ⟨RX12, "game", "(III)I"⟩
abbrev cX12_draw : ByteArray := prog_14_method_110_code
def yX12_draw : MethodName := ⟨RX12, "draw", "(I)I"⟩
abbrev cX12_happens : ByteArray := prog_14_method_111_code
def yX12_happens : MethodName := ⟨RX12, "happens", "()V"⟩
abbrev cX12_years : ByteArray := prog_14_method_112_code
def yX12_years : MethodName := ⟨RX12, "years", "(III)I"⟩
abbrev cX12_image : ByteArray := prog_14_method_113_code
def yX12_image : MethodName := ⟨RX12, "image", "()V"⟩
abbrev cX12_restore : ByteArray := prog_14_method_114_code
def yX12_restore : MethodName := ⟨RX12, "restore", "()Z"⟩
def RJx145de : String := "java/io/Serializable"
def TJx145de : u_T := fun k => match k with
  | _ => ("", "", "", false)
def tyJx145de : Nat → FieldType := fun k => match k with
  | _ => .int
abbrev wsJx145de0 : List Cond := u_ws RJx145de TJx145de 0
theorem nmJx145de : ∀ a, a < 0 → ∀ b, b < 0 → a ≠ b → (TJx145de a).2.1 ≠ (TJx145de b).2.1 := by decide +kernel
theorem tyJx145de_ok : ∀ k, k < 0 → parseFieldDescriptor (TJx145de k).2.2.1 = some (tyJx145de k) := by decide +kernel
def RJx9f9b0 : String := "java/lang/CharSequence"
def TJx9f9b0 : u_T := fun k => match k with
  | _ => ("", "", "", false)
def tyJx9f9b0 : Nat → FieldType := fun k => match k with
  | _ => .int
abbrev wsJx9f9b00 : List Cond := u_ws RJx9f9b0 TJx9f9b0 0
theorem nmJx9f9b0 : ∀ a, a < 0 → ∀ b, b < 0 → a ≠ b → (TJx9f9b0 a).2.1 ≠ (TJx9f9b0 b).2.1 := by decide +kernel
theorem tyJx9f9b0_ok : ∀ k, k < 0 → parseFieldDescriptor (TJx9f9b0 k).2.2.1 = some (tyJx9f9b0 k) := by decide +kernel
def RJ11 : String := "java/lang/Character"
def TJ11 : u_T := fun k => match k with
  | _ => ("", "", "", false)
def tyJ11 : Nat → FieldType := fun k => match k with
  | _ => .int
abbrev wsJ110 : List Cond := u_ws RJ11 TJ11 0
theorem nmJ11 : ∀ a, a < 0 → ∀ b, b < 0 → a ≠ b → (TJ11 a).2.1 ≠ (TJ11 b).2.1 := by decide +kernel
theorem tyJ11_ok : ∀ k, k < 0 → parseFieldDescriptor (TJ11 k).2.2.1 = some (tyJ11 k) := by decide +kernel
abbrev cJ11_isValidCodePoint_9a6ad : ByteArray := prog_17_method_11_code
def yJ11_isValidCodePoint_9a6ad : MethodName := ⟨RJ11, "isValidCodePoint", "(I)Z"⟩
abbrev cJ11_highSurrogate_5068e : ByteArray := prog_17_method_28_code
def yJ11_highSurrogate_5068e : MethodName := ⟨RJ11, "highSurrogate", "(I)C"⟩
abbrev cJ11_lowSurrogate_5068e : ByteArray := prog_17_method_29_code
def yJ11_lowSurrogate_5068e : MethodName := ⟨RJ11, "lowSurrogate", "(I)C"⟩
def RJxb160c : String := "java/lang/Comparable"
def TJxb160c : u_T := fun k => match k with
  | _ => ("", "", "", false)
def tyJxb160c : Nat → FieldType := fun k => match k with
  | _ => .int
abbrev wsJxb160c0 : List Cond := u_ws RJxb160c TJxb160c 0
theorem nmJxb160c : ∀ a, a < 0 → ∀ b, b < 0 → a ≠ b → (TJxb160c a).2.1 ≠ (TJxb160c b).2.1 := by decide +kernel
theorem tyJxb160c_ok : ∀ k, k < 0 → parseFieldDescriptor (TJxb160c k).2.2.1 = some (tyJxb160c k) := by decide +kernel
def RJ6 : String := "java/lang/Integer"
def TJ6 : u_T := fun k => match k with
  | _ => ("", "", "", false)
def tyJ6 : Nat → FieldType := fun k => match k with
  | _ => .int
abbrev wsJ60 : List Cond := u_ws RJ6 TJ6 0
theorem nmJ6 : ∀ a, a < 0 → ∀ b, b < 0 → a ≠ b → (TJ6 a).2.1 ≠ (TJ6 b).2.1 := by decide +kernel
theorem tyJ6_ok : ∀ k, k < 0 → parseFieldDescriptor (TJ6 k).2.2.1 = some (tyJ6 k) := by decide +kernel
abbrev cJ6_bitCount_0f7a4 : ByteArray := prog_21_method_49_code
def yJ6_bitCount_0f7a4 : MethodName := ⟨RJ6, "bitCount", "(I)I"⟩
def RJ13 : String := "java/lang/Long"
def TJ13 : u_T := fun k => match k with
  | _ => ("", "", "", false)
def tyJ13 : Nat → FieldType := fun k => match k with
  | _ => .int
abbrev wsJ130 : List Cond := u_ws RJ13 TJ13 0
theorem nmJ13 : ∀ a, a < 0 → ∀ b, b < 0 → a ≠ b → (TJ13 a).2.1 ≠ (TJ13 b).2.1 := by decide +kernel
theorem tyJ13_ok : ∀ k, k < 0 → parseFieldDescriptor (TJ13 k).2.2.1 = some (tyJ13 k) := by decide +kernel
abbrev cJ13_bitCount_95d88 : ByteArray := prog_22_method_50_code
def yJ13_bitCount_95d88 : MethodName := ⟨RJ13, "bitCount", "(J)I"⟩
def RJ9 : String := "java/lang/Math"
def TJ9 : u_T := fun k => match k with
  | _ => ("", "", "", false)
def tyJ9 : Nat → FieldType := fun k => match k with
  | _ => .int
abbrev wsJ90 : List Cond := u_ws RJ9 TJ9 0
theorem nmJ9 : ∀ a, a < 0 → ∀ b, b < 0 → a ≠ b → (TJ9 a).2.1 ≠ (TJ9 b).2.1 := by decide +kernel
theorem tyJ9_ok : ∀ k, k < 0 → parseFieldDescriptor (TJ9 k).2.2.1 = some (tyJ9 k) := by decide +kernel
abbrev cJ9_max_7cf53 : ByteArray := prog_23_method_65_code
def yJ9_max_7cf53 : MethodName := ⟨RJ9, "max", "(II)I"⟩
abbrev cJ9_min_7cf53 : ByteArray := prog_23_method_69_code
def yJ9_min_7cf53 : MethodName := ⟨RJ9, "min", "(II)I"⟩
def RJ0 : String := "java/lang/String"
def TJ0 : u_T := fun k => match k with
  | _ => ("", "", "", false)
def tyJ0 : Nat → FieldType := fun k => match k with
  | _ => .int
abbrev wsJ00 : List Cond := u_ws RJ0 TJ0 0
theorem nmJ0 : ∀ a, a < 0 → ∀ b, b < 0 → a ≠ b → (TJ0 a).2.1 ≠ (TJ0 b).2.1 := by decide +kernel
theorem tyJ0_ok : ∀ k, k < 0 → parseFieldDescriptor (TJ0 k).2.2.1 = some (tyJ0 k) := by decide +kernel
abbrev cJ0_length_8abf5 : ByteArray := prog_25_method_54_code
def yJ0_length_8abf5 : MethodName := ⟨RJ0, "length", "()I"⟩
abbrev cJ0_charAt_5068e : ByteArray := prog_25_method_56_code
def yJ0_charAt_5068e : MethodName := ⟨RJ0, "charAt", "(I)C"⟩
abbrev cJ0_indexOf_0f7a4 : ByteArray := prog_25_method_79_code
def yJ0_indexOf_0f7a4 : MethodName := ⟨RJ0, "indexOf", "(I)I"⟩
abbrev cJ0_indexOf_7cf53 : ByteArray := prog_25_method_80_code
def yJ0_indexOf_7cf53 : MethodName := ⟨RJ0, "indexOf", "(II)I"⟩
abbrev cJ0_coder_7d493 : ByteArray := prog_25_method_152_code
def yJ0_coder_7d493 : MethodName := ⟨RJ0, "coder", "()B"⟩
abbrev cJ0_isLatin1_aae02 : ByteArray := prog_25_method_154_code
def yJ0_isLatin1_aae02 : MethodName := ⟨RJ0, "isLatin1", "()Z"⟩
abbrev cJ0_checkIndex_df160 : ByteArray := prog_25_method_155_code
def yJ0_checkIndex_df160 : MethodName := ⟨RJ0, "checkIndex", "(II)V"⟩
abbrev cJ0_checkBoundsBeginEnd_23922 : ByteArray := prog_25_method_158_code
def yJ0_checkBoundsBeginEnd_23922 : MethodName := ⟨RJ0, "checkBoundsBeginEnd", "(III)V"⟩
def RJ1 : String := "java/lang/StringLatin1"
def TJ1 : u_T := fun k => match k with
  | _ => ("", "", "", false)
def tyJ1 : Nat → FieldType := fun k => match k with
  | _ => .int
abbrev wsJ10 : List Cond := u_ws RJ1 TJ1 0
theorem nmJ1 : ∀ a, a < 0 → ∀ b, b < 0 → a ≠ b → (TJ1 a).2.1 ≠ (TJ1 b).2.1 := by decide +kernel
theorem tyJ1_ok : ∀ k, k < 0 → parseFieldDescriptor (TJ1 k).2.2.1 = some (tyJ1 k) := by decide +kernel
abbrev cJ1_charAt_3b067 : ByteArray := prog_26_method_2_code
def yJ1_charAt_3b067 : MethodName := ⟨RJ1, "charAt", "([BI)C"⟩
abbrev cJ1_canEncode_9a6ad : ByteArray := prog_26_method_4_code
def yJ1_canEncode_9a6ad : MethodName := ⟨RJ1, "canEncode", "(I)Z"⟩
abbrev cJ1_indexOf_4cfef : ByteArray := prog_26_method_22_code
def yJ1_indexOf_4cfef : MethodName := ⟨RJ1, "indexOf", "([BIII)I"⟩
abbrev cJ1_indexOfChar_4cfef : ByteArray := prog_26_method_23_code
def yJ1_indexOfChar_4cfef : MethodName := ⟨RJ1, "indexOfChar", "([BIII)I"⟩
def RJ2 : String := "java/lang/StringUTF16"
def TJ2 : u_T := fun k => match k with
  | _ => ("", "", "", false)
def tyJ2 : Nat → FieldType := fun k => match k with
  | _ => .int
abbrev wsJ20 : List Cond := u_ws RJ2 TJ2 0
theorem nmJ2 : ∀ a, a < 0 → ∀ b, b < 0 → a ≠ b → (TJ2 a).2.1 ≠ (TJ2 b).2.1 := by decide +kernel
theorem tyJ2_ok : ∀ k, k < 0 → parseFieldDescriptor (TJ2 k).2.2.1 = some (tyJ2 k) := by decide +kernel
abbrev cJ2_getChar_3b067 : ByteArray := prog_27_method_5_code
def yJ2_getChar_3b067 : MethodName := ⟨RJ2, "getChar", "([BI)C"⟩
abbrev cJ2_length_9d52b : ByteArray := prog_27_method_6_code
def yJ2_length_9d52b : MethodName := ⟨RJ2, "length", "([B)I"⟩
abbrev cJ2_indexOf_4cfef : ByteArray := prog_27_method_40_code
def yJ2_indexOf_4cfef : MethodName := ⟨RJ2, "indexOf", "([BIII)I"⟩
abbrev cJ2_indexOfChar_4cfef : ByteArray := prog_27_method_47_code
def yJ2_indexOfChar_4cfef : MethodName := ⟨RJ2, "indexOfChar", "([BIII)I"⟩
abbrev cJ2_indexOfCharUnsafe_4cfef : ByteArray := prog_27_method_48_code
def yJ2_indexOfCharUnsafe_4cfef : MethodName := ⟨RJ2, "indexOfCharUnsafe", "([BIII)I"⟩
abbrev cJ2_indexOfSupplementary_4cfef : ByteArray := prog_27_method_49_code
def yJ2_indexOfSupplementary_4cfef : MethodName := ⟨RJ2, "indexOfSupplementary", "([BIII)I"⟩
abbrev cJ2_charAt_3b067 : ByteArray := prog_27_method_83_code
def yJ2_charAt_3b067 : MethodName := ⟨RJ2, "charAt", "([BI)C"⟩
abbrev cJ2_checkIndex_2214a : ByteArray := prog_27_method_91_code
def yJ2_checkIndex_2214a : MethodName := ⟨RJ2, "checkIndex", "(I[B)V"⟩
abbrev cJ2_checkBoundsBeginEnd_d044e : ByteArray := prog_27_method_93_code
def yJ2_checkBoundsBeginEnd_d044e : MethodName := ⟨RJ2, "checkBoundsBeginEnd", "(II[B)V"⟩
def RJ10 : String := "java/lang/System"
def TJ10 : u_T := fun k => match k with
  | _ => ("", "", "", false)
def tyJ10 : Nat → FieldType := fun k => match k with
  | _ => .int
abbrev wsJ100 : List Cond := u_ws RJ10 TJ10 0
theorem nmJ10 : ∀ a, a < 0 → ∀ b, b < 0 → a ≠ b → (TJ10 a).2.1 ≠ (TJ10 b).2.1 := by decide +kernel
theorem tyJ10_ok : ∀ k, k < 0 → parseFieldDescriptor (TJ10 k).2.2.1 = some (tyJ10 k) := by decide +kernel
def RJxfd54e : String := "java/lang/constant/Constable"
def TJxfd54e : u_T := fun k => match k with
  | _ => ("", "", "", false)
def tyJxfd54e : Nat → FieldType := fun k => match k with
  | _ => .int
abbrev wsJxfd54e0 : List Cond := u_ws RJxfd54e TJxfd54e 0
theorem nmJxfd54e : ∀ a, a < 0 → ∀ b, b < 0 → a ≠ b → (TJxfd54e a).2.1 ≠ (TJxfd54e b).2.1 := by decide +kernel
theorem tyJxfd54e_ok : ∀ k, k < 0 → parseFieldDescriptor (TJxfd54e k).2.2.1 = some (tyJxfd54e k) := by decide +kernel
def RJx3cf43 : String := "java/lang/constant/ConstantDesc"
def TJx3cf43 : u_T := fun k => match k with
  | _ => ("", "", "", false)
def tyJx3cf43 : Nat → FieldType := fun k => match k with
  | _ => .int
abbrev wsJx3cf430 : List Cond := u_ws RJx3cf43 TJx3cf43 0
theorem nmJx3cf43 : ∀ a, a < 0 → ∀ b, b < 0 → a ≠ b → (TJx3cf43 a).2.1 ≠ (TJx3cf43 b).2.1 := by decide +kernel
theorem tyJx3cf43_ok : ∀ k, k < 0 → parseFieldDescriptor (TJx3cf43 k).2.2.1 = some (tyJx3cf43 k) := by decide +kernel
def RJ7 : String := "java/util/Arrays"
def TJ7 : u_T := fun k => match k with
  | _ => ("", "", "", false)
def tyJ7 : Nat → FieldType := fun k => match k with
  | _ => .int
abbrev wsJ70 : List Cond := u_ws RJ7 TJ7 0
theorem nmJ7 : ∀ a, a < 0 → ∀ b, b < 0 → a ≠ b → (TJ7 a).2.1 ≠ (TJ7 b).2.1 := by decide +kernel
theorem tyJ7_ok : ∀ k, k < 0 → parseFieldDescriptor (TJ7 k).2.2.1 = some (tyJ7 k) := by decide +kernel
abbrev cJ7_fill_d0a16 : ByteArray := prog_32_method_101_code
def yJ7_fill_d0a16 : MethodName := ⟨RJ7, "fill", "([JJ)V"⟩
abbrev cJ7_fill_53178 : ByteArray := prog_32_method_103_code
def yJ7_fill_53178 : MethodName := ⟨RJ7, "fill", "([II)V"⟩
def RJ3 : String := "jdk/internal/util/Preconditions"
def TJ3 : u_T := fun k => match k with
  | _ => ("", "", "", false)
def tyJ3 : Nat → FieldType := fun k => match k with
  | _ => .int
abbrev wsJ30 : List Cond := u_ws RJ3 TJ3 0
theorem nmJ3 : ∀ a, a < 0 → ∀ b, b < 0 → a ≠ b → (TJ3 a).2.1 ≠ (TJ3 b).2.1 := by decide +kernel
theorem tyJ3_ok : ∀ k, k < 0 → parseFieldDescriptor (TJ3 k).2.2.1 = some (tyJ3 k) := by decide +kernel
abbrev cJ3_checkIndex_8e157 : ByteArray := prog_34_method_11_code
def yJ3_checkIndex_8e157 : MethodName := ⟨RJ3, "checkIndex", "(IILjava/util/function/BiFunction;)I"⟩
abbrev cJ3_checkFromToIndex_8c36e : ByteArray := prog_34_method_12_code
def yJ3_checkFromToIndex_8c36e : MethodName := ⟨RJ3, "checkFromToIndex", "(IIILjava/util/function/BiFunction;)I"⟩
def RL : String := "TownTableLaw"
abbrev cL_town : ByteArray := method_3_code
def yL_town : MethodName := ⟨RL, "town", "(LTownTable;I[J)I"⟩
abbrev cL_count : ByteArray := method_4_code
def yL_count : MethodName := ⟨RL, "count", "(LTownTable;I[J)I"⟩
abbrev cL_figure : ByteArray := method_5_code
def yL_figure : MethodName := ⟨RL, "figure", "(LTownTable;II[J)I"⟩
abbrev cL_cell : ByteArray := method_6_code
def yL_cell : MethodName := ⟨RL, "cell", "(LTownTable;II[J)I"⟩
abbrev cL_stop : ByteArray := method_7_code
def yL_stop : MethodName := ⟨RL, "stop", "(LTownTable;II[J)I"⟩
abbrev cL_lift : ByteArray := method_8_code
def yL_lift : MethodName := ⟨RL, "lift", "(LTownTable;II[J)I"⟩
abbrev cL_brush : ByteArray := method_9_code
def yL_brush : MethodName := ⟨RL, "brush", "(LTownTable;I[J)I"⟩
abbrev cL_wall : ByteArray := method_10_code
def yL_wall : MethodName := ⟨RL, "wall", "(LTownTable;IZ[J)I"⟩
abbrev cL_then : ByteArray := method_11_code
def yL_then : MethodName := ⟨RL, "then", "(LTownTable;III[J)I"⟩
abbrev cL_comes : ByteArray := method_12_code
def yL_comes : MethodName := ⟨RL, "comes", "(LTownTable;II[J)I"⟩
abbrev cL_meet : ByteArray := method_13_code
def yL_meet : MethodName := ⟨RL, "meet", "(LTownTable;II[J)I"⟩
abbrev cL_crowd : ByteArray := method_14_code
def yL_crowd : MethodName := ⟨RL, "crowd", "(LTownTable;II[J)I"⟩
abbrev cL_spread : ByteArray := method_15_code
def yL_spread : MethodName := ⟨RL, "spread", "(LTownTable;II[J)I"⟩
abbrev cL_way : ByteArray := method_16_code
def yL_way : MethodName := ⟨RL, "way", "(LTownTable;III[J)I"⟩
abbrev cL_toStop : ByteArray := method_17_code
def yL_toStop : MethodName := ⟨RL, "toStop", "(LTownTable;III[J)I"⟩
abbrev cL_toThin : ByteArray := method_18_code
def yL_toThin : MethodName := ⟨RL, "toThin", "(LTownTable;I[J)I"⟩
abbrev cL_seats : ByteArray := method_19_code
def yL_seats : MethodName := ⟨RL, "seats", "(LTownTable;I[J)I"⟩
abbrev cL_seat : ByteArray := method_20_code
def yL_seat : MethodName := ⟨RL, "seat", "(LTownTable;I[J)I"⟩
abbrev cL_note : ByteArray := method_21_code
def yL_note : MethodName := ⟨RL, "note", "(LTownTable;III[J)I"⟩
abbrev cL_ahead : ByteArray := method_22_code
def yL_ahead : MethodName := ⟨RL, "ahead", "(LTownTable;I[J)I"⟩
abbrev cL_look : ByteArray := method_23_code
def yL_look : MethodName := ⟨RL, "look", "(LTownTable;I[J)I"⟩
abbrev cL_clouds : ByteArray := method_24_code
def yL_clouds : MethodName := ⟨RL, "clouds", "(LTownTable;IIII[J)I"⟩
abbrev cL_game : ByteArray := method_25_code
def yL_game : MethodName := ⟨RL, "game", "(LTownTable;III[J)I"⟩
abbrev cL_years : ByteArray := method_26_code
def yL_years : MethodName := ⟨RL, "years", "(LTownTable;III[J)I"⟩
abbrev cL_later : ByteArray := method_27_code
def yL_later : MethodName := ⟨RL, "later", "(LTownTable;II[J)I"⟩
abbrev cL_together : ByteArray := method_28_code
def yL_together : MethodName := ⟨RL, "together", "(LTownTable;III[J)I"⟩
abbrev cL_quiet : ByteArray := method_29_code
def yL_quiet : MethodName := ⟨RL, "quiet", "(LTownTable;II[J)I"⟩
abbrev cL_gone : ByteArray := method_30_code
def yL_gone : MethodName := ⟨RL, "gone", "(LTownTable;II[J)I"⟩
abbrev cL_law : ByteArray := code
def yL_law : MethodName := ⟨RL, "law", "([I)Z"⟩
abbrev vwCl : List vw_C := [(RX0, TX0, 7), (RX1, TX1, 4), (RX2, TX2, 1), (RX3, TX3, 15), (RX4, TX4, 2), (RX5, TX5, 3), (RX6, TX6, 6), (RX7, TX7, 5), (RX8, TX8, 8), (RX9, TX9, 7), (RX10, TX10, 2), (RX11, TX11, 20), (RX12, TX12, 71)]
end
section
/-! THE PURE MACHINE: cells by numbers from 0 on (a cell of the heap: its number above the base n0), frames of locals and stack, one step of a method's code as a predicate transformer; what it says is carried over to the machine by ONE theorem (part 06). -/
abbrev pE : Type := (Nat × Nat × ((Nat → Int32) ⊕ (Nat → Int64))) ⊕ (Nat × List Value)
abbrev pS : Type := Nat × (Nat → pE)
abbrev pL : Type := List (Option Value)
abbrev pR : Type := Option Value ⊕ String
abbrev pQ : Type := pR → pS → Prop
abbrev pF : Type := Nat → pL → List Value → Nat → Nat → pS → Prop
abbrev pCall : Type := Nat → List Value → pS → pQ → Prop
/-- a value as the machine has it; a return address stands for a text constant -/
def pm_v (n0 : Nat) (sa : Nat → Nat) : Value → Value
  | .ref a => .ref (n0 + a)
  | .retAddr k => .ref (sa k)
  | v => v
def pm_e (n0 : Nat) (sa : Nat → Nat) (ck : Nat → ClassId) : pE → va_E
  | .inl (k, n, .inl f) => .inl (ck k, n, .inl f)
  | .inl (k, n, .inr f) => .inl (ck k, n, .inr (.inl f))
  | .inr (c, fs) => .inr (c, fs.map (pm_v n0 sa))
def pm_w (n0 : Nat) (sa : Nat → Nat) (ck : Nat → ClassId) (S : pS) : va_W := (List.range S.1).map (fun i => (n0 + i, pm_e n0 sa ck (S.2 i)))
/-- a method's own tables: code (with a branch's target), fields by pool number (class, place), methods by pool number (kind, number, how many arguments, class), constants, classes to be made (number, fields at first), texts thrown with (by the place of the new: the class), the answer's type, whether it is a constructor -/
abbrev pC : Type := (Nat → Option (Instr × Nat)) × (Nat → Option (Nat × Nat)) × (Nat → Option (Nat × Nat × Nat × Nat)) × (Nat → Option Value) × (Nat → Option (Nat × List Value)) × (Nat → Option String) × Option FieldType × Bool
abbrev pc_in (C : pC) : Nat → Option (Instr × Nat) := C.1
abbrev pc_fl (C : pC) : Nat → Option (Nat × Nat) := C.2.1
abbrev pc_ml (C : pC) : Nat → Option (Nat × Nat × Nat × Nat) := C.2.2.1
abbrev pc_kc (C : pC) : Nat → Option Value := C.2.2.2.1
abbrev pc_nw (C : pC) : Nat → Option (Nat × List Value) := C.2.2.2.2.1
abbrev pc_th (C : pC) : Nat → Option String := C.2.2.2.2.2.1
abbrev pc_rt (C : pC) : Option FieldType := C.2.2.2.2.2.2.1
abbrev pc_ini (C : pC) : Bool := C.2.2.2.2.2.2.2
def pm_o {α : Type} (o : Option α) (f : α → Prop) : Prop := match o with
  | some x => f x
  | none => False
def pm_get (ls : pL) (i : Nat) : Option Value := (ls[i]?).join
def pm_clr (ls : pL) (i : Nat) : pL := match i with
  | 0 => ls
  | j + 1 => match pm_get ls j with
    | some w => if w.category = 2 then ls.set j none else ls
    | none => ls
def pm_set (ls : pL) (i : Nat) (v : Value) : pL := if v.category = 2 then (((pm_clr ls i).set i (some v)).set (i + 1) none) else ((pm_clr ls i).set i (some v))
def pm_gi (ls : pL) (i : Nat) (f : Int32 → Prop) : Prop := match pm_get ls i with
  | some (.int x) => f x
  | _ => False
def pm_gl (ls : pL) (i : Nat) (f : Int64 → Prop) : Prop := match pm_get ls i with
  | some (.long x) => f x
  | _ => False
/-- a cell, or a text -/
def pm_isr (v : Value) : Bool := match v with
  | .ref _ => true
  | .retAddr _ => true
  | _ => false
def pm_ga (ls : pL) (i : Nat) (f : Value → Prop) : Prop := match pm_get ls i with
  | some v => pm_isr v = true ∧ f v
  | none => False
def pm_i (st : List Value) (f : Int32 → List Value → Prop) : Prop := match st with
  | .int x :: r => f x r
  | _ => False
def pm_l (st : List Value) (f : Int64 → List Value → Prop) : Prop := match st with
  | .long x :: r => f x r
  | _ => False
def pm_ii (st : List Value) (f : Int32 → Int32 → List Value → Prop) : Prop := match st with
  | .int y :: .int x :: r => f x y r
  | _ => False
def pm_ll (st : List Value) (f : Int64 → Int64 → List Value → Prop) : Prop := match st with
  | .long y :: .long x :: r => f x y r
  | _ => False
def pm_li (st : List Value) (f : Int64 → Int32 → List Value → Prop) : Prop := match st with
  | .int y :: .long x :: r => f x y r
  | _ => False
def pm_a (st : List Value) (f : Value → List Value → Prop) : Prop := match st with
  | v :: r => pm_isr v = true ∧ f v r
  | _ => False
def pm_r (st : List Value) (f : Nat → List Value → Prop) : Prop := match st with
  | .ref a :: r => f a r
  | _ => False
def pm_vr (st : List Value) (f : Value → Nat → List Value → Prop) : Prop := match st with
  | v :: .ref a :: r => f v a r
  | _ => False
def pm_ir (st : List Value) (f : Int32 → Nat → List Value → Prop) : Prop := match st with
  | .int i :: .ref a :: r => f i a r
  | _ => False
def pm_iir (st : List Value) (f : Int32 → Int32 → Nat → List Value → Prop) : Prop := match st with
  | .int x :: .int i :: .ref a :: r => f x i a r
  | _ => False
def pm_lir (st : List Value) (f : Int64 → Int32 → Nat → List Value → Prop) : Prop := match st with
  | .long x :: .int i :: .ref a :: r => f x i a r
  | _ => False
/-- an object of a class: its fields -/
def pm_ob (S : pS) (a ci : Nat) (f : List Value → Prop) : Prop := a < S.1 ∧ (match S.2 a with
  | .inr (c, fs) => c = ci ∧ f fs
  | .inl _ => False)
/-- an array of ints (of chars, of booleans), by its kind -/
def pm_ar (S : pS) (a kd : Nat) (f : Nat → (Nat → Int32) → Prop) : Prop := a < S.1 ∧ (match S.2 a with
  | .inl (k, n, .inl g) => k = kd ∧ f n g
  | _ => False)
def pm_aj (S : pS) (a : Nat) (f : Nat → (Nat → Int64) → Prop) : Prop := a < S.1 ∧ (match S.2 a with
  | .inl (k, n, .inr g) => k = 1 ∧ f n g
  | _ => False)
def pm_an (S : pS) (a : Nat) (f : Nat → Prop) : Prop := a < S.1 ∧ (match S.2 a with
  | .inl (k, n, .inl _) => k < 4 ∧ k ≠ 1 ∧ f n
  | .inl (k, n, .inr _) => k = 1 ∧ f n
  | .inr _ => False)
def pm_up (S : pS) (a : Nat) (e : pE) : pS := (S.1, va_up S.2 a e)
def pm_fit (ty : FieldType) (v : Value) : Bool := match ty, v with
  | .int, .int _ => true
  | .long, .long _ => true
  | .boolean, .int x => x == 0 || x == 1
  | .object _, .ref _ => true
  | .array _, .ref _ => true
  | _, _ => false
/-- a field's type, whether it is final -/
def pm_ft (ci k : Nat) : Option (FieldType × Bool) := match vwCl[ci]? with
  | some (_, T, N) => if k < N then (parseFieldDescriptor (T k).2.2.1).map (fun t => (t, (T k).2.2.2)) else none
  | none => none
def pm_sw (x lo hi : Int) (pc : Nat) (d : Int) (os : Array Int) (f : Nat → Prop) : Prop := if x < lo ∨ hi < x then 0 ≤ (pc : Int) + d ∧ f ((pc : Int) + d).toNat else pm_o (os[(x - lo).toNat]?) (fun o => 0 ≤ (pc : Int) + o ∧ f ((pc : Int) + o).toNat)
/-- a branch, by what the machine's own rows ask -/
def pm_cd (c : Jvm.ClassFile.Cond) (x y : Int32) (t f : Prop) : Prop := match c with
  | .eq => (x = y → t) ∧ (¬ x = y → f)
  | .ne => (¬ x = y → t) ∧ (x = y → f)
  | .lt => (x < y → t) ∧ (¬ x < y → f)
  | .ge => (y ≤ x → t) ∧ (¬ y ≤ x → f)
  | .gt => (y < x → t) ∧ (¬ y < x → f)
  | .le => (x ≤ y → t) ∧ (¬ x ≤ y → f)
def pm_ix (i : Int32) (n : Nat) (f : Prop) : Prop := ¬ (i < 0 ∨ n ≤ i.toNatClampNeg) ∧ f
def pm_ar1 (st : List Value) (n : Nat) (f : List Value → List Value → Prop) : Prop := n ≤ st.length ∧ f (st.take n).reverse (st.drop n)
/-- what a callee uses up where it returns: one that makes cells for good its whole budget, any other one nothing -/
def pm_nu (al : Bool) (u x : Nat) : Nat := match al with
  | true => u + x
  | false => u
def pm_po (cost : Nat → Nat × Nat × Bool) (Q : pQ) (k : pF) (pc : Nat) (ls : pL) (j : Nat) (r : List Value) (uc us : Nat) : pQ := fun o S1 => match o with
  | .inl v => k (pc + 3) ls (v.toList ++ r) (pm_nu (cost j).2.2 uc (cost j).1) (pm_nu (cost j).2.2 us (cost j).2.1) S1
  | .inr E => Q (.inr E) S1
/-- a call, the budget of cells and slots that the callee may use up, what comes behind it -/
def pm_inv (call : pCall) (cost : Nat → Nat × Nat × Bool) (al : Bool) (nxe mc ms : Nat) (Q : pQ) (k : pF) (pc : Nat) (ls : pL) (j : Nat) (as r : List Value) (uc us : Nat) (S : pS) : Prop :=
  r.length ≤ 4 ∧ uc + (cost j).1 ≤ mc ∧ us + (cost j).2.1 ≤ ms ∧ ((cost j).2.2 = true → al = true ∧ S.1 = nxe + uc) ∧ call j as S (pm_po cost Q k pc ls j r uc us)
def pm_akd : ClassFile.ArrayType → Option Nat
  | .int => some 0
  | .long => some 1
  | .char => some 2
  | .boolean => some 3
  | _ => none
def pm_na (kd N : Nat) : pE := if kd = 1 then .inl (1, N, .inr (fun _ => 0)) else .inl (kd, N, .inl (fun _ => 0))
def pm_dup (st : List Value) (f : Value → List Value → Prop) : Prop := match st with
  | v :: r => v.category = 1 ∧ f v r
  | [] => False
def pm_dup2 (st : List Value) (f : Value → Value → List Value → Prop) : Prop := match st with
  | v :: w :: r => v.category = 1 ∧ w.category = 1 ∧ f v w r
  | _ => False
def pm_kl (o : Option Value) (f : Int64 → Prop) : Prop := match o with
  | some (.long x) => f x
  | _ => False
def pm_ki (o : Option Value) (f : Value → Prop) : Prop := match o with
  | some (.int x) => f (.int x)
  | some (.retAddr x) => f (.retAddr x)
  | _ => False
def pm_t (st : List Value) (f : Nat → List Value → Prop) : Prop := match st with
  | .retAddr a :: r => f a r
  | _ => False
/-- System.arraycopy of ints -/
def pm_cpy (S : pS) (st : List Value) (f : Nat → pE → List Value → Prop) : Prop := match st with
  | .int n :: .int dp :: .ref b :: .int sp :: .ref a :: r => pm_ar S a 0 (fun n0 g => pm_ar S b 0 (fun n1 h => ¬ sp < 0 ∧ ¬ dp < 0 ∧ ¬ n < 0 ∧ sp.toNatClampNeg + n.toNatClampNeg ≤ n0 ∧ dp.toNatClampNeg + n.toNatClampNeg ≤ n1 ∧ f b (.inl (0, n1, .inl (va_cpy g h sp.toNatClampNeg dp.toNatClampNeg n.toNatClampNeg))) r))
  | _ => False
def pm_step (C : pC) (d : Nat) (call : pCall) (cost : Nat → Nat × Nat × Bool) (al : Bool) (nxe mc ms : Nat) (Q : pQ) (k : pF) : pF := fun pc ls st uc us S =>
  match pc_in C pc with
  | none => False
  | some (ins, tg) => match ins with
    | .iconst n => k (pc + 1) ls (.int (Int32.ofInt n) :: st) uc us S
    | .bipush n => k (pc + 2) ls (.int (Int8.ofInt n).toInt32 :: st) uc us S
    | .sipush n => k (pc + 3) ls (.int (Int16.ofInt n).toInt32 :: st) uc us S
    | .lconst n => k (pc + 1) ls (.long (Int64.ofNat (n : Nat)) :: st) uc us S
    | .ldc i => pm_ki (pc_kc C i) (fun v => k (pc + 2) ls (v :: st) uc us S)
    | .ldc_w i => pm_ki (pc_kc C i) (fun v => k (pc + 3) ls (v :: st) uc us S)
    | .ldc2_w i => pm_kl (pc_kc C i) (fun x => k (pc + 3) ls (.long x :: st) uc us S)
    | .iload i => pm_gi ls i (fun x => k (pc + 2) ls (.int x :: st) uc us S)
    | .iload_n i => pm_gi ls i (fun x => k (pc + 1) ls (.int x :: st) uc us S)
    | .lload i => pm_gl ls i (fun x => k (pc + 2) ls (.long x :: st) uc us S)
    | .lload_n i => pm_gl ls i (fun x => k (pc + 1) ls (.long x :: st) uc us S)
    | .aload i => pm_ga ls i (fun v => k (pc + 2) ls (v :: st) uc us S)
    | .aload_n i => pm_ga ls i (fun v => k (pc + 1) ls (v :: st) uc us S)
    | .istore i => pm_i st (fun x r => i < ls.length ∧ k (pc + 2) (pm_set ls i (.int x)) r uc us S)
    | .istore_n i => pm_i st (fun x r => (i : Nat) < ls.length ∧ k (pc + 1) (pm_set ls i (.int x)) r uc us S)
    | .lstore i => pm_l st (fun x r => i + 1 < ls.length ∧ k (pc + 2) (pm_set ls i (.long x)) r uc us S)
    | .lstore_n i => pm_l st (fun x r => (i : Nat) + 1 < ls.length ∧ k (pc + 1) (pm_set ls i (.long x)) r uc us S)
    | .astore i => pm_a st (fun v r => i < ls.length ∧ k (pc + 2) (pm_set ls i v) r uc us S)
    | .astore_n i => pm_a st (fun v r => (i : Nat) < ls.length ∧ k (pc + 1) (pm_set ls i v) r uc us S)
    | .iinc i n => pm_gi ls i (fun x => i < ls.length ∧ k (pc + 3) (pm_set ls i (.int (x + Int32.ofInt n))) st uc us S)
    | .iadd => pm_ii st (fun x y r => k (pc + 1) ls (.int (x + y) :: r) uc us S)
    | .isub => pm_ii st (fun x y r => k (pc + 1) ls (.int (x - y) :: r) uc us S)
    | .imul => pm_ii st (fun x y r => k (pc + 1) ls (.int (x * y) :: r) uc us S)
    | .idiv => pm_ii st (fun x y r => ¬ y = 0 ∧ k (pc + 1) ls (.int (x / y) :: r) uc us S)
    | .irem => pm_ii st (fun x y r => ¬ y = 0 ∧ k (pc + 1) ls (.int (x - x / y * y) :: r) uc us S)
    | .iand => pm_ii st (fun x y r => k (pc + 1) ls (.int (x &&& y) :: r) uc us S)
    | .ior => pm_ii st (fun x y r => k (pc + 1) ls (.int (x ||| y) :: r) uc us S)
    | .ixor => pm_ii st (fun x y r => k (pc + 1) ls (.int (x ^^^ y) :: r) uc us S)
    | .ishl => pm_ii st (fun x y r => k (pc + 1) ls (.int (x <<< (y &&& 31)) :: r) uc us S)
    | .ishr => pm_ii st (fun x y r => k (pc + 1) ls (.int (x >>> (y &&& 31)) :: r) uc us S)
    | .iushr => pm_ii st (fun x y r => k (pc + 1) ls (.int (x.toUInt32 >>> (y.toUInt32 &&& Int32.toUInt32 31)).toInt32 :: r) uc us S)
    | .ladd => pm_ll st (fun x y r => k (pc + 1) ls (.long (x + y) :: r) uc us S)
    | .lsub => pm_ll st (fun x y r => k (pc + 1) ls (.long (x - y) :: r) uc us S)
    | .land => pm_ll st (fun x y r => k (pc + 1) ls (.long (x &&& y) :: r) uc us S)
    | .lor => pm_ll st (fun x y r => k (pc + 1) ls (.long (x ||| y) :: r) uc us S)
    | .lxor => pm_ll st (fun x y r => k (pc + 1) ls (.long (x ^^^ y) :: r) uc us S)
    | .lshl => pm_li st (fun x y r => k (pc + 1) ls (.long (x <<< (y.toInt64 &&& 63)) :: r) uc us S)
    | .lushr => pm_li st (fun x y r => k (pc + 1) ls (.long (x.toUInt64 >>> (y.toInt64.toUInt64 &&& Int64.toUInt64 63)).toInt64 :: r) uc us S)
    | .lcmp => pm_ll st (fun x y r => k (pc + 1) ls (.int (lg_cmp x y) :: r) uc us S)
    | .i2l => pm_i st (fun x r => k (pc + 1) ls (.long x.toInt64 :: r) uc us S)
    | .l2i => pm_l st (fun x r => k (pc + 1) ls (.int x.toInt32 :: r) uc us S)
    | .i2c => pm_i st (fun x r => k (pc + 1) ls (.int (x.toUInt32 % 65536).toInt32 :: r) uc us S)
    | .dup => pm_dup st (fun v r => k (pc + 1) ls (v :: v :: r) uc us S)
    | .pop => pm_dup st (fun _ r => k (pc + 1) ls r uc us S)
    | .dup2 => pm_dup2 st (fun v w r => k (pc + 1) ls (v :: w :: v :: w :: r) uc us S)
    | .goto _ => k tg ls st uc us S
    | .ifCond c _ => pm_i st (fun x r => pm_cd c x 0 (k tg ls r uc us S) (k (pc + 3) ls r uc us S))
    | .if_icmp c _ => pm_ii st (fun x y r => pm_cd c x y (k tg ls r uc us S) (k (pc + 3) ls r uc us S))
    | .tableswitch df lo hi os => pm_i st (fun x r => pm_sw x.toInt lo hi pc df os (fun t => k t ls r uc us S))
    | .getfield i => pm_o (pc_fl C i) (fun q => pm_r st (fun a r => pm_ob S a q.1 (fun fs => pm_o (fs[q.2]?) (fun v => k (pc + 3) ls (v :: r) uc us S))))
    | .putfield i => pm_o (pc_fl C i) (fun q => pm_vr st (fun v a r => pm_ob S a q.1 (fun fs => q.2 < fs.length ∧ pm_o (pm_ft q.1 q.2) (fun t => pm_fit t.1 v = true ∧ (t.2 = true → pc_ini C = true) ∧ k (pc + 3) ls r uc us (pm_up S a (.inr (q.1, fs.set q.2 v)))))))
    | .iaload => pm_ir st (fun i a r => pm_ar S a 0 (fun n f => pm_ix i n (k (pc + 1) ls (.int (f i.toNatClampNeg) :: r) uc us S)))
    | .caload => pm_ir st (fun i a r => pm_ar S a 2 (fun n f => pm_ix i n (k (pc + 1) ls (.int (f i.toNatClampNeg) :: r) uc us S)))
    | .baload => pm_ir st (fun i a r => pm_ar S a 3 (fun n f => pm_ix i n (k (pc + 1) ls (.int (f i.toNatClampNeg) :: r) uc us S)))
    | .laload => pm_ir st (fun i a r => pm_aj S a (fun n f => pm_ix i n (k (pc + 1) ls (.long (f i.toNatClampNeg) :: r) uc us S)))
    | .iastore => pm_iir st (fun x i a r => pm_ar S a 0 (fun n f => pm_ix i n (k (pc + 1) ls r uc us (pm_up S a (.inl (0, n, .inl (upd f i.toNatClampNeg x)))))))
    | .castore => pm_iir st (fun x i a r => pm_ar S a 2 (fun n f => pm_ix i n (k (pc + 1) ls r uc us (pm_up S a (.inl (2, n, .inl (upd f i.toNatClampNeg (vp_nar .char x))))))))
    | .bastore => pm_iir st (fun x i a r => pm_ar S a 3 (fun n f => pm_ix i n (k (pc + 1) ls r uc us (pm_up S a (.inl (3, n, .inl (upd f i.toNatClampNeg (vp_nar .boolean x))))))))
    | .lastore => pm_lir st (fun x i a r => pm_aj S a (fun n f => pm_ix i n (k (pc + 1) ls r uc us (pm_up S a (.inl (1, n, .inr (vp_updL f i.toNatClampNeg x)))))))
    | .arraylength => pm_r st (fun a r => pm_an S a (fun n => k (pc + 1) ls (.int (Int32.ofNat n) :: r) uc us S))
    | .invokestatic i => pm_o (pc_ml C i) (fun q => (q.1 = 0 ∧ pm_ar1 st q.2.2.1 (fun as r => pm_inv call cost al nxe mc ms Q k pc ls q.2.1 as r uc us S)) ∨ (q.1 = 4 ∧ 3 ≤ d ∧ pm_cpy S st (fun b e r => r.length ≤ 4 ∧ k (pc + 3) ls r uc us (pm_up S b e))))
    | .invokevirtual i => pm_o (pc_ml C i) (fun q => (q.1 = 1 ∧ pm_ar1 st q.2.2.1 (fun as r => pm_r r (fun b r => pm_ob S b q.2.2.2 (fun _ => True) ∧ pm_inv call cost al nxe mc ms Q k pc ls q.2.1 (.ref b :: as) r uc us S))) ∨ (q.1 = 6 ∧ pm_ar1 st q.2.2.1 (fun as r => pm_t r (fun b r => pm_inv call cost al nxe mc ms Q k pc ls q.2.1 (.retAddr b :: as) r uc us S))))
    | .invokespecial i => pm_o (pc_ml C i) (fun q => (q.1 = 3 ∧ 2 ≤ d ∧ pm_r st (fun b r => pm_ob S b q.2.2.2 (fun _ => True) ∧ r = [] ∧ k (pc + 3) ls r uc us S)) ∨ (q.1 = 2 ∧ pm_ar1 st q.2.2.1 (fun as r => pm_r r (fun b r => pm_inv call cost al nxe mc ms (fun _ _ => False) k pc ls q.2.1 (.ref b :: as) r uc us S))))
    | .new i => (match pc_th C pc with
      | some E => 7 ≤ d ∧ st.length ≤ 4 ∧ uc + 1 ≤ mc ∧ us + 6 ≤ ms ∧ Q (.inr E) S
      | none => pm_o (pc_nw C i) (fun q => uc + 1 ≤ mc ∧ us + q.2.length ≤ ms ∧ (al = true ∧ S.1 = nxe + uc) ∧ k (pc + 3) ls (.ref S.1 :: st) (uc + 1) (us + q.2.length) (S.1 + 1, va_up S.2 S.1 (.inr q))))
    | .newarray t => pm_o (pm_akd t) (fun kd => pm_i st (fun n r => ¬ n < 0 ∧ n.toNatClampNeg ≤ 65536 ∧ uc + 1 ≤ mc ∧ us + n.toNatClampNeg ≤ ms ∧ (al = true ∧ S.1 = nxe + uc) ∧ k (pc + 2) ls (.ref S.1 :: r) (uc + 1) (us + n.toNatClampNeg) (S.1 + 1, va_up S.2 S.1 (pm_na kd n.toNatClampNeg))))
    | .ireturn => pm_i st (fun x r => r = [] ∧ pm_o (pc_rt C) (fun ty => pm_fit ty (.int x) = true ∧ (al = false → uc = 0 ∧ us = 0) ∧ Q (.inl (some (.int x))) S))
    | .lreturn => pm_l st (fun x r => r = [] ∧ pc_rt C = some .long ∧ (al = false → uc = 0 ∧ us = 0) ∧ Q (.inl (some (.long x))) S)
    | .return_ => st = [] ∧ pc_rt C = none ∧ (al = false → uc = 0 ∧ us = 0) ∧ Q (.inl none) S
    | _ => False
/-- the least predicate that is closed under the step -/
def pm_ev (C : pC) (d : Nat) (call : pCall) (cost : Nat → Nat × Nat × Bool) (al : Bool) (nxe mc ms : Nat) (Q : pQ) : pF := fun pc ls st uc us S =>
  ∀ X : pF, (∀ pc ls st uc us S, pm_step C d call cost al nxe mc ms Q X pc ls st uc us S → X pc ls st uc us S) → X pc ls st uc us S
def pm_sl (v : Value) : pL := if v.category = 2 then [some v, none] else [some v]
def pm_ent (maxL : Nat) (as : List Value) : pL := as.flatMap pm_sl ++ List.replicate (maxL - (as.flatMap pm_sl).length) none
/-- the methods: tables, locals; what isn't among them is told from outside -/
def pm_call (M : Nat → Option (pC × Nat)) (cost : Nat → Nat × Nat × Bool) (ext : pCall) : Nat → pCall
  | 0 => fun _ _ _ _ => False
  | d + 1 => fun j as S Q => match M j with
    | some q => (as.flatMap pm_sl).length ≤ q.2 ∧ pm_ev q.1 (d + 1) (pm_call M cost ext d) cost (cost j).2.2 S.1 (cost j).1 (cost j).2.1 Q 0 (pm_ent q.2 as) [] 0 0 S
    | none => 8 ≤ d ∧ ext j as S Q
end
section
theorem pm_o_m {α : Type} {o : Option α} {f g : α → Prop} (h : ∀ x, f x → g x) : pm_o o f → pm_o o g := by
  cases o with
  | none => exact id
  | some x => exact h x
theorem pm_gi_m {ls : pL} {i : Nat} {f g : Int32 → Prop} (h : ∀ x, f x → g x) : pm_gi ls i f → pm_gi ls i g := by
  unfold pm_gi; split
  · exact h _
  · exact id
theorem pm_gl_m {ls : pL} {i : Nat} {f g : Int64 → Prop} (h : ∀ x, f x → g x) : pm_gl ls i f → pm_gl ls i g := by
  unfold pm_gl; split
  · exact h _
  · exact id
theorem pm_ga_m {ls : pL} {i : Nat} {f g : Value → Prop} (h : ∀ x, f x → g x) : pm_ga ls i f → pm_ga ls i g := by
  unfold pm_ga; split
  · exact fun q => ⟨q.1, h _ q.2⟩
  · exact id
theorem pm_i_m {st : List Value} {f g : Int32 → List Value → Prop} (h : ∀ x r, f x r → g x r) : pm_i st f → pm_i st g := by
  unfold pm_i; split
  · exact h _ _
  · exact id
theorem pm_l_m {st : List Value} {f g : Int64 → List Value → Prop} (h : ∀ x r, f x r → g x r) : pm_l st f → pm_l st g := by
  unfold pm_l; split
  · exact h _ _
  · exact id
theorem pm_ii_m {st : List Value} {f g : Int32 → Int32 → List Value → Prop} (h : ∀ x y r, f x y r → g x y r) : pm_ii st f → pm_ii st g := by
  unfold pm_ii; split
  · exact h _ _ _
  · exact id
theorem pm_ll_m {st : List Value} {f g : Int64 → Int64 → List Value → Prop} (h : ∀ x y r, f x y r → g x y r) : pm_ll st f → pm_ll st g := by
  unfold pm_ll; split
  · exact h _ _ _
  · exact id
theorem pm_li_m {st : List Value} {f g : Int64 → Int32 → List Value → Prop} (h : ∀ x y r, f x y r → g x y r) : pm_li st f → pm_li st g := by
  unfold pm_li; split
  · exact h _ _ _
  · exact id
theorem pm_a_m {st : List Value} {f g : Value → List Value → Prop} (h : ∀ x r, f x r → g x r) : pm_a st f → pm_a st g := by
  unfold pm_a; split
  · exact fun q => ⟨q.1, h _ _ q.2⟩
  · exact id
theorem pm_r_m {st : List Value} {f g : Nat → List Value → Prop} (h : ∀ x r, f x r → g x r) : pm_r st f → pm_r st g := by
  unfold pm_r; split
  · exact h _ _
  · exact id
theorem pm_vr_m {st : List Value} {f g : Value → Nat → List Value → Prop} (h : ∀ v x r, f v x r → g v x r) : pm_vr st f → pm_vr st g := by
  unfold pm_vr; split
  · exact h _ _ _
  · exact id
theorem pm_ir_m {st : List Value} {f g : Int32 → Nat → List Value → Prop} (h : ∀ v x r, f v x r → g v x r) : pm_ir st f → pm_ir st g := by
  unfold pm_ir; split
  · exact h _ _ _
  · exact id
theorem pm_iir_m {st : List Value} {f g : Int32 → Int32 → Nat → List Value → Prop} (h : ∀ u v x r, f u v x r → g u v x r) : pm_iir st f → pm_iir st g := by
  unfold pm_iir; split
  · exact h _ _ _ _
  · exact id
theorem pm_lir_m {st : List Value} {f g : Int64 → Int32 → Nat → List Value → Prop} (h : ∀ u v x r, f u v x r → g u v x r) : pm_lir st f → pm_lir st g := by
  unfold pm_lir; split
  · exact h _ _ _ _
  · exact id
theorem pm_ob_m {S : pS} {a ci : Nat} {f g : List Value → Prop} (h : ∀ x, f x → g x) : pm_ob S a ci f → pm_ob S a ci g := by
  unfold pm_ob; rintro ⟨h1, h2⟩; refine ⟨h1, ?_⟩; revert h2; split
  · exact fun q => ⟨q.1, h _ q.2⟩
  · exact id
theorem pm_ar_m {S : pS} {a kd : Nat} {f g : Nat → (Nat → Int32) → Prop} (h : ∀ n x, f n x → g n x) : pm_ar S a kd f → pm_ar S a kd g := by
  unfold pm_ar; rintro ⟨h1, h2⟩; refine ⟨h1, ?_⟩; revert h2; split
  · exact fun q => ⟨q.1, h _ _ q.2⟩
  · exact id
theorem pm_aj_m {S : pS} {a : Nat} {f g : Nat → (Nat → Int64) → Prop} (h : ∀ n x, f n x → g n x) : pm_aj S a f → pm_aj S a g := by
  unfold pm_aj; rintro ⟨h1, h2⟩; refine ⟨h1, ?_⟩; revert h2; split
  · exact fun q => ⟨q.1, h _ _ q.2⟩
  · exact id
theorem pm_an_m {S : pS} {a : Nat} {f g : Nat → Prop} (h : ∀ n, f n → g n) : pm_an S a f → pm_an S a g := by
  unfold pm_an; rintro ⟨h1, h2⟩; refine ⟨h1, ?_⟩; revert h2; split
  · exact fun q => ⟨q.1, q.2.1, h _ q.2.2⟩
  · exact fun q => ⟨q.1, h _ q.2⟩
  · exact id
theorem pm_cd_m {c : Jvm.ClassFile.Cond} {x y : Int32} {t f t' f' : Prop} (h1 : t → t') (h2 : f → f') : pm_cd c x y t f → pm_cd c x y t' f' := by
  cases c <;> exact fun q => ⟨fun z => h1 (q.1 z), fun z => h2 (q.2 z)⟩
theorem pm_ix_m {i : Int32} {n : Nat} {f g : Prop} (h : f → g) : pm_ix i n f → pm_ix i n g := fun q => ⟨q.1, h q.2⟩
theorem pm_ar1_m {st : List Value} {n : Nat} {f g : List Value → List Value → Prop} (h : ∀ a r, f a r → g a r) : pm_ar1 st n f → pm_ar1 st n g := fun q => ⟨q.1, h _ _ q.2⟩
theorem pm_sw_m {x lo hi : Int} {pc : Nat} {d : Int} {os : Array Int} {f g : Nat → Prop} (h : ∀ t, f t → g t) : pm_sw x lo hi pc d os f → pm_sw x lo hi pc d os g := by
  unfold pm_sw; split
  · exact fun q => ⟨q.1, h _ q.2⟩
  · exact pm_o_m (fun _ q => ⟨q.1, h _ q.2⟩)
theorem pm_dup_m {st : List Value} {f g : Value → List Value → Prop} (h : ∀ x r, f x r → g x r) : pm_dup st f → pm_dup st g := by
  unfold pm_dup; split
  · exact fun q => ⟨q.1, h _ _ q.2⟩
  · exact id
theorem pm_dup2_m {st : List Value} {f g : Value → Value → List Value → Prop} (h : ∀ x y r, f x y r → g x y r) : pm_dup2 st f → pm_dup2 st g := by
  unfold pm_dup2; split
  · exact fun q => ⟨q.1, q.2.1, h _ _ _ q.2.2⟩
  · exact id
theorem pm_kl_m {o : Option Value} {f g : Int64 → Prop} (h : ∀ x, f x → g x) : pm_kl o f → pm_kl o g := by
  unfold pm_kl; split
  · exact h _
  · exact id
theorem pm_ki_m {o : Option Value} {f g : Value → Prop} (h : ∀ x, f x → g x) : pm_ki o f → pm_ki o g := by
  unfold pm_ki; split
  · exact h _
  · exact h _
  · exact id
theorem pm_t_m {st : List Value} {f g : Nat → List Value → Prop} (h : ∀ x r, f x r → g x r) : pm_t st f → pm_t st g := by
  unfold pm_t; split
  · exact h _ _
  · exact id
theorem pm_cpy_m {S : pS} {st : List Value} {f g : Nat → pE → List Value → Prop} (h : ∀ x e r, f x e r → g x e r) : pm_cpy S st f → pm_cpy S st g := by
  unfold pm_cpy; split
  · exact pm_ar_m (fun _ _ => pm_ar_m (fun _ _ q => ⟨q.1, q.2.1, q.2.2.1, q.2.2.2.1, q.2.2.2.2.1, h _ _ _ q.2.2.2.2.2⟩))
  · exact id
theorem pm_inv_m {call : pCall} {cost : Nat → Nat × Nat × Bool} {al : Bool} {nxe mc ms : Nat} {Q Q' : pQ} {k k' : pF} (hc : ∀ j as S (Q Q' : pQ), (∀ o S, Q o S → Q' o S) → call j as S Q → call j as S Q') (hq : ∀ o S, Q o S → Q' o S) (hk : ∀ a b c d e f, k a b c d e f → k' a b c d e f) {pc : Nat} {ls : pL} {j : Nat} {as r : List Value} {uc us : Nat} {S : pS} : pm_inv call cost al nxe mc ms Q k pc ls j as r uc us S → pm_inv call cost al nxe mc ms Q' k' pc ls j as r uc us S := by
  rintro ⟨h1, h2, h3, h4, h5⟩
  refine ⟨h1, h2, h3, h4, hc _ _ _ _ _ (fun o S1 => ?_) h5⟩
  cases o with
  | inl v => exact hk _ _ _ _ _ _
  | inr E => exact hq _ _
theorem pm_step_m {C : pC} {d : Nat} {call : pCall} {cost : Nat → Nat × Nat × Bool} {al : Bool} {nxe mc ms : Nat} {Q Q' : pQ} {k k' : pF} (hc : ∀ j as S (Q Q' : pQ), (∀ o S, Q o S → Q' o S) → call j as S Q → call j as S Q') (hq : ∀ o S, Q o S → Q' o S) (hk : ∀ a b c d e f, k a b c d e f → k' a b c d e f) (pc : Nat) (ls : pL) (st : List Value) (uc us : Nat) (S : pS) : pm_step C d call cost al nxe mc ms Q k pc ls st uc us S → pm_step C d call cost al nxe mc ms Q' k' pc ls st uc us S := by
  unfold pm_step
  cases pc_in C pc with
  | none => exact id
  | some q =>
    obtain ⟨ins, tg⟩ := q
    cases ins <;> first
      | exact id
      | exact hk _ _ _ _ _ _
      | exact pm_ki_m (fun _ => hk _ _ _ _ _ _)
      | exact pm_kl_m (fun _ => hk _ _ _ _ _ _)
      | exact pm_gi_m (fun _ => hk _ _ _ _ _ _)
      | exact pm_gl_m (fun _ => hk _ _ _ _ _ _)
      | exact pm_ga_m (fun _ => hk _ _ _ _ _ _)
      | exact pm_gi_m (fun _ h => ⟨h.1, hk _ _ _ _ _ _ h.2⟩)
      | exact pm_i_m (fun _ _ => hk _ _ _ _ _ _)
      | exact pm_l_m (fun _ _ => hk _ _ _ _ _ _)
      | exact pm_i_m (fun _ _ h => ⟨h.1, hk _ _ _ _ _ _ h.2⟩)
      | exact pm_l_m (fun _ _ h => ⟨h.1, hk _ _ _ _ _ _ h.2⟩)
      | exact pm_a_m (fun _ _ h => ⟨h.1, hk _ _ _ _ _ _ h.2⟩)
      | exact pm_ii_m (fun _ _ _ => hk _ _ _ _ _ _)
      | exact pm_ii_m (fun _ _ _ h => ⟨h.1, hk _ _ _ _ _ _ h.2⟩)
      | exact pm_ll_m (fun _ _ _ => hk _ _ _ _ _ _)
      | exact pm_li_m (fun _ _ _ => hk _ _ _ _ _ _)
      | exact pm_dup_m (fun _ _ => hk _ _ _ _ _ _)
      | exact pm_dup2_m (fun _ _ _ => hk _ _ _ _ _ _)
      | exact pm_i_m (fun _ _ => pm_cd_m (hk _ _ _ _ _ _) (hk _ _ _ _ _ _))
      | exact pm_ii_m (fun _ _ _ => pm_cd_m (hk _ _ _ _ _ _) (hk _ _ _ _ _ _))
      | exact pm_i_m (fun _ _ => pm_sw_m (fun _ => hk _ _ _ _ _ _))
      | exact pm_o_m (fun _ => pm_r_m (fun _ _ => pm_ob_m (fun _ => pm_o_m (fun _ => hk _ _ _ _ _ _))))
      | exact pm_o_m (fun _ => pm_vr_m (fun _ _ _ => pm_ob_m (fun _ h => ⟨h.1, pm_o_m (fun _ h => ⟨h.1, h.2.1, hk _ _ _ _ _ _ h.2.2⟩) h.2⟩)))
      | exact pm_ir_m (fun _ _ _ => pm_ar_m (fun _ _ => pm_ix_m (hk _ _ _ _ _ _)))
      | exact pm_ir_m (fun _ _ _ => pm_aj_m (fun _ _ => pm_ix_m (hk _ _ _ _ _ _)))
      | exact pm_iir_m (fun _ _ _ _ => pm_ar_m (fun _ _ => pm_ix_m (hk _ _ _ _ _ _)))
      | exact pm_lir_m (fun _ _ _ _ => pm_aj_m (fun _ _ => pm_ix_m (hk _ _ _ _ _ _)))
      | exact pm_r_m (fun _ _ => pm_an_m (fun _ => hk _ _ _ _ _ _))
      | exact pm_o_m (fun _ h => h.elim (fun h => Or.inl ⟨h.1, pm_ar1_m (fun _ _ => pm_inv_m hc hq hk) h.2⟩) (fun h => Or.inr ⟨h.1, h.2.1, pm_cpy_m (fun _ _ _ h => ⟨h.1, hk _ _ _ _ _ _ h.2⟩) h.2.2⟩))
      | exact pm_o_m (fun _ h => h.elim (fun h => Or.inl ⟨h.1, pm_ar1_m (fun _ _ => pm_r_m (fun _ _ h => ⟨h.1, pm_inv_m hc hq hk h.2⟩)) h.2⟩) (fun h => Or.inr ⟨h.1, pm_ar1_m (fun _ _ => pm_t_m (fun _ _ => pm_inv_m hc hq hk)) h.2⟩))
      | exact pm_o_m (fun _ h => h.elim (fun h => Or.inl ⟨h.1, h.2.1, pm_r_m (fun _ _ h => ⟨h.1, h.2.1, hk _ _ _ _ _ _ h.2.2⟩) h.2.2⟩) (fun h => Or.inr ⟨h.1, pm_ar1_m (fun _ _ => pm_r_m (fun _ _ => pm_inv_m hc (fun _ _ => id) hk)) h.2⟩))
      | exact pm_o_m (fun _ => pm_i_m (fun _ _ h => ⟨h.1, h.2.1, h.2.2.1, h.2.2.2.1, h.2.2.2.2.1, hk _ _ _ _ _ _ h.2.2.2.2.2⟩))
      | exact pm_i_m (fun _ _ h => ⟨h.1, pm_o_m (fun _ h => ⟨h.1, h.2.1, hq _ _ h.2.2⟩) h.2⟩)
      | exact pm_l_m (fun _ _ h => ⟨h.1, h.2.1, h.2.2.1, hq _ _ h.2.2.2⟩)
      | exact fun h => ⟨h.1, h.2.1, h.2.2.1, hq _ _ h.2.2.2⟩
      | skip
    show (match pc_th C pc with
      | some E => 7 ≤ d ∧ st.length ≤ 4 ∧ uc + 1 ≤ mc ∧ us + 6 ≤ ms ∧ Q (.inr E) S
      | none => pm_o (pc_nw C _) (fun q => uc + 1 ≤ mc ∧ us + q.2.length ≤ ms ∧ (al = true ∧ S.1 = nxe + uc) ∧ k (pc + 3) ls (.ref S.1 :: st) (uc + 1) (us + q.2.length) (S.1 + 1, va_up S.2 S.1 (.inr q)))) → _
    cases pc_th C pc with
    | some E => exact fun h => ⟨h.1, h.2.1, h.2.2.1, h.2.2.2.1, hq _ _ h.2.2.2.2⟩
    | none => exact pm_o_m (fun _ h => ⟨h.1, h.2.1, h.2.2.1, hk _ _ _ _ _ _ h.2.2.2⟩)
theorem pm_go {C : pC} {d : Nat} {call : pCall} {cost : Nat → Nat × Nat × Bool} {al : Bool} {nxe mc ms : Nat} {Q : pQ} (hc : ∀ j as S (Q Q' : pQ), (∀ o S, Q o S → Q' o S) → call j as S Q → call j as S Q') {pc : Nat} {ls : pL} {st : List Value} {uc us : Nat} {S : pS} (h : pm_step C d call cost al nxe mc ms Q (pm_ev C d call cost al nxe mc ms Q) pc ls st uc us S) : pm_ev C d call cost al nxe mc ms Q pc ls st uc us S := by
  intro X hX
  exact hX _ _ _ _ _ _ (pm_step_m hc (fun _ _ => id) (fun _ _ _ _ _ _ q => q X hX) _ _ _ _ _ _ h)
theorem pm_ev_m {C : pC} {d : Nat} {call : pCall} {cost : Nat → Nat × Nat × Bool} {al : Bool} {nxe mc ms : Nat} {Q Q' : pQ} (hc : ∀ j as S (Q Q' : pQ), (∀ o S, Q o S → Q' o S) → call j as S Q → call j as S Q') (hq : ∀ o S, Q o S → Q' o S) {pc : Nat} {ls : pL} {st : List Value} {uc us : Nat} {S : pS} (h : pm_ev C d call cost al nxe mc ms Q pc ls st uc us S) : pm_ev C d call cost al nxe mc ms Q' pc ls st uc us S := by
  refine h _ (fun pc ls st uc us S q => pm_go hc (pm_step_m hc hq (fun _ _ _ _ _ _ z => z) _ _ _ _ _ _ q))
theorem pm_call_m {M : Nat → Option (pC × Nat)} {cost : Nat → Nat × Nat × Bool} {ext : pCall} (he : ∀ j as S (Q Q' : pQ), (∀ o S, Q o S → Q' o S) → ext j as S Q → ext j as S Q') : ∀ (d : Nat) (j : Nat) (as : List Value) (S : pS) (Q Q' : pQ), (∀ o S, Q o S → Q' o S) → pm_call M cost ext d j as S Q → pm_call M cost ext d j as S Q'
  | 0, _, _, _, _, _, _ => id
  | d + 1, j, as, S, Q, Q', hq => by
    unfold pm_call
    cases M j with
    | some q => exact fun h => ⟨h.1, pm_ev_m (pm_call_m he d) hq h.2⟩
    | none => exact fun h => ⟨h.1, he _ _ _ _ _ hq h.2⟩
end
section
theorem pm_gi_e {ls : pL} {i : Nat} {f : Int32 → Prop} (h : pm_gi ls i f) : ∃ x, pm_get ls i = some (.int x) ∧ f x := by
  unfold pm_gi at h; split at h
  · exact ⟨_, ‹_›, h⟩
  · exact h.elim
theorem pm_gl_e {ls : pL} {i : Nat} {f : Int64 → Prop} (h : pm_gl ls i f) : ∃ x, pm_get ls i = some (.long x) ∧ f x := by
  unfold pm_gl at h; split at h
  · exact ⟨_, ‹_›, h⟩
  · exact h.elim
theorem pm_ga_e {ls : pL} {i : Nat} {f : Value → Prop} (h : pm_ga ls i f) : ∃ v, pm_get ls i = some v ∧ pm_isr v = true ∧ f v := by
  unfold pm_ga at h; split at h
  · exact ⟨_, ‹_›, h.1, h.2⟩
  · exact h.elim
theorem pm_i_e {st : List Value} {f : Int32 → List Value → Prop} (h : pm_i st f) : ∃ x r, st = .int x :: r ∧ f x r := by
  unfold pm_i at h; split at h
  · exact ⟨_, _, rfl, h⟩
  · exact h.elim
theorem pm_l_e {st : List Value} {f : Int64 → List Value → Prop} (h : pm_l st f) : ∃ x r, st = .long x :: r ∧ f x r := by
  unfold pm_l at h; split at h
  · exact ⟨_, _, rfl, h⟩
  · exact h.elim
theorem pm_ii_e {st : List Value} {f : Int32 → Int32 → List Value → Prop} (h : pm_ii st f) : ∃ x y r, st = .int y :: .int x :: r ∧ f x y r := by
  unfold pm_ii at h; split at h
  · exact ⟨_, _, _, rfl, h⟩
  · exact h.elim
theorem pm_ll_e {st : List Value} {f : Int64 → Int64 → List Value → Prop} (h : pm_ll st f) : ∃ x y r, st = .long y :: .long x :: r ∧ f x y r := by
  unfold pm_ll at h; split at h
  · exact ⟨_, _, _, rfl, h⟩
  · exact h.elim
theorem pm_li_e {st : List Value} {f : Int64 → Int32 → List Value → Prop} (h : pm_li st f) : ∃ x y r, st = .int y :: .long x :: r ∧ f x y r := by
  unfold pm_li at h; split at h
  · exact ⟨_, _, _, rfl, h⟩
  · exact h.elim
theorem pm_a_e {st : List Value} {f : Value → List Value → Prop} (h : pm_a st f) : ∃ v r, st = v :: r ∧ pm_isr v = true ∧ f v r := by
  unfold pm_a at h; split at h
  · exact ⟨_, _, rfl, h.1, h.2⟩
  · exact h.elim
theorem pm_r_e {st : List Value} {f : Nat → List Value → Prop} (h : pm_r st f) : ∃ a r, st = .ref a :: r ∧ f a r := by
  unfold pm_r at h; split at h
  · exact ⟨_, _, rfl, h⟩
  · exact h.elim
theorem pm_vr_e {st : List Value} {f : Value → Nat → List Value → Prop} (h : pm_vr st f) : ∃ v a r, st = v :: .ref a :: r ∧ f v a r := by
  unfold pm_vr at h; split at h
  · exact ⟨_, _, _, rfl, h⟩
  · exact h.elim
theorem pm_ir_e {st : List Value} {f : Int32 → Nat → List Value → Prop} (h : pm_ir st f) : ∃ i a r, st = .int i :: .ref a :: r ∧ f i a r := by
  unfold pm_ir at h; split at h
  · exact ⟨_, _, _, rfl, h⟩
  · exact h.elim
theorem pm_iir_e {st : List Value} {f : Int32 → Int32 → Nat → List Value → Prop} (h : pm_iir st f) : ∃ x i a r, st = .int x :: .int i :: .ref a :: r ∧ f x i a r := by
  unfold pm_iir at h; split at h
  · exact ⟨_, _, _, _, rfl, h⟩
  · exact h.elim
theorem pm_lir_e {st : List Value} {f : Int64 → Int32 → Nat → List Value → Prop} (h : pm_lir st f) : ∃ x i a r, st = .long x :: .int i :: .ref a :: r ∧ f x i a r := by
  unfold pm_lir at h; split at h
  · exact ⟨_, _, _, _, rfl, h⟩
  · exact h.elim
theorem pm_o_e {α : Type} {o : Option α} {f : α → Prop} (h : pm_o o f) : ∃ x, o = some x ∧ f x := by
  unfold pm_o at h; split at h
  · exact ⟨_, rfl, h⟩
  · exact h.elim
theorem pm_ob_e {S : pS} {a ci : Nat} {f : List Value → Prop} (h : pm_ob S a ci f) : a < S.1 ∧ ∃ fs, S.2 a = .inr (ci, fs) ∧ f fs := by
  obtain ⟨h1, h2⟩ := h
  refine ⟨h1, ?_⟩
  revert h2; split
  · rintro ⟨rfl, h3⟩; exact ⟨_, ‹_›, h3⟩
  · exact False.elim
theorem pm_ar_e {S : pS} {a kd : Nat} {f : Nat → (Nat → Int32) → Prop} (h : pm_ar S a kd f) : a < S.1 ∧ ∃ n g, S.2 a = .inl (kd, n, .inl g) ∧ f n g := by
  obtain ⟨h1, h2⟩ := h
  refine ⟨h1, ?_⟩
  revert h2; split
  · rintro ⟨rfl, h3⟩; exact ⟨_, _, ‹_›, h3⟩
  · exact False.elim
theorem pm_aj_e {S : pS} {a : Nat} {f : Nat → (Nat → Int64) → Prop} (h : pm_aj S a f) : a < S.1 ∧ ∃ n g, S.2 a = .inl (1, n, .inr g) ∧ f n g := by
  obtain ⟨h1, h2⟩ := h
  refine ⟨h1, ?_⟩
  revert h2; split
  · rintro ⟨rfl, h3⟩; exact ⟨_, _, ‹_›, h3⟩
  · exact False.elim
theorem pm_an_e {S : pS} {a : Nat} {f : Nat → Prop} (h : pm_an S a f) : a < S.1 ∧ ∃ n, ((∃ k g, S.2 a = .inl (k, n, .inl g) ∧ k < 4) ∨ ∃ g, S.2 a = .inl (1, n, .inr g)) ∧ f n := by
  obtain ⟨h1, h2⟩ := h
  refine ⟨h1, ?_⟩
  revert h2; split
  · rintro ⟨h2, -, h3⟩; exact ⟨_, Or.inl ⟨_, _, ‹_›, h2⟩, h3⟩
  · rintro ⟨rfl, h3⟩; exact ⟨_, Or.inr ⟨_, ‹_›⟩, h3⟩
  · exact False.elim
theorem pm_dup_e {st : List Value} {f : Value → List Value → Prop} (h : pm_dup st f) : ∃ v r, st = v :: r ∧ v.category = 1 ∧ f v r := by
  unfold pm_dup at h; split at h
  · exact ⟨_, _, rfl, h.1, h.2⟩
  · exact h.elim
theorem pm_dup2_e {st : List Value} {f : Value → Value → List Value → Prop} (h : pm_dup2 st f) : ∃ v w r, st = v :: w :: r ∧ v.category = 1 ∧ w.category = 1 ∧ f v w r := by
  unfold pm_dup2 at h; split at h
  · exact ⟨_, _, _, rfl, h.1, h.2.1, h.2.2⟩
  · exact h.elim
theorem pm_kl_e {o : Option Value} {f : Int64 → Prop} (h : pm_kl o f) : ∃ x, o = some (.long x) ∧ f x := by
  unfold pm_kl at h; split at h
  · exact ⟨_, rfl, h⟩
  · exact h.elim
theorem pm_ki_e {o : Option Value} {f : Value → Prop} (h : pm_ki o f) : (∃ x, o = some (.int x) ∧ f (.int x)) ∨ ∃ x, o = some (.retAddr x) ∧ f (.retAddr x) := by
  unfold pm_ki at h; split at h
  · exact Or.inl ⟨_, rfl, h⟩
  · exact Or.inr ⟨_, rfl, h⟩
  · exact h.elim
theorem pm_v_cat (n0 : Nat) (sa : Nat → Nat) (v : Value) : (pm_v n0 sa v).category = v.category := by cases v <;> rfl
theorem pm_v_isr {n0 : Nat} {sa : Nat → Nat} {v : Value} (h : pm_isr v = true) : ∃ a, pm_v n0 sa v = .ref a := by
  cases v <;> first | exact ⟨_, rfl⟩ | (simp [pm_isr] at h)
theorem pm_w_get {n0 : Nat} {sa : Nat → Nat} {ck : Nat → ClassId} {S : pS} {i : Nat} (h : i < S.1) : (pm_w n0 sa ck S)[i]? = some (n0 + i, pm_e n0 sa ck (S.2 i)) := by
  simp [pm_w, List.getElem?_range h]
theorem pm_w_len {n0 : Nat} {sa : Nat → Nat} {ck : Nat → ClassId} {S : pS} : (pm_w n0 sa ck S).length = S.1 := by simp [pm_w]
theorem pm_w_set {n0 : Nat} {sa : Nat → Nat} {ck : Nat → ClassId} {S : pS} {i : Nat} (e : pE) : (pm_w n0 sa ck S).set i (n0 + i, pm_e n0 sa ck e) = pm_w n0 sa ck (pm_up S i e) := by
  apply List.ext_getElem?
  intro j
  by_cases hj : j < S.1
  · by_cases hi : j = i
    · subst hi
      rw [List.getElem?_set_self (by rw [pm_w_len]; exact hj), pm_w_get (S := pm_up S j e) hj]
      simp [pm_up, va_up]
    · rw [List.getElem?_set_ne (fun q => hi q.symm), pm_w_get hj, pm_w_get (S := pm_up S i e) hj]
      simp [pm_up, va_up, hi]
  · rw [List.getElem?_eq_none (by rw [List.length_set, pm_w_len]; omega), List.getElem?_eq_none (by rw [pm_w_len]; exact Nat.not_lt.mp hj)]
theorem pm_w_push {n0 : Nat} {sa : Nat → Nat} {ck : Nat → ClassId} {S : pS} (e : pE) : pm_w n0 sa ck S ++ [(n0 + S.1, pm_e n0 sa ck e)] = pm_w n0 sa ck (S.1 + 1, va_up S.2 S.1 e) := by
  unfold pm_w
  rw [show (S.1 + 1, va_up S.2 S.1 e).1 = S.1 + 1 from rfl, List.range_succ, List.map_append]
  congr 1
  · apply List.map_congr_left
    intro i hi
    have : i ≠ S.1 := fun q => by rw [q] at hi; simp at hi
    simp [va_up, this]
  · simp [va_up]
theorem pm_w_D {n0 : Nat} {sa : Nat → Nat} {ck : Nat → ClassId} {S : pS} : va_D (fun q => n0 ≤ q) (pm_w n0 sa ck S) := by
  have key : ∀ (k : Nat) (q : Nat × va_E), (pm_w n0 sa ck S)[k]? = some q → q.1 = n0 + k := by
    intro k q h
    have hk : k < S.1 := by
      have := (List.getElem?_eq_some_iff.mp h).1
      rwa [pm_w_len] at this
    rw [pm_w_get hk] at h
    cases h
    rfl
  refine ⟨fun i j p q hi hj h => ?_, fun k q h => ?_⟩
  · rw [key i p hi, key j q hj] at h
    omega
  · rw [key k q h]
    exact Nat.le_add_right _ _
def pm_lr (n0 : Nat) (sa : Nat → Nat) (lsA : Array Slot) (nL : Nat) (ls : pL) : Prop := ls.length = nL ∧ lsA.size = nL ∧ lv_wf lsA ∧ ∀ i v, pm_get ls i = some v → lsA[i]? = some (.val (pm_v n0 sa v))
def pm_lp (n0 : Nat) (sa : Nat → Nat) (nL : Nat) (ls : pL) : List (Nat × Value) := (List.range nL).filterMap (fun i => (pm_get ls i).map (fun v => (i, pm_v n0 sa v)))
theorem pm_lp_mem {n0 : Nat} {sa : Nat → Nat} {nL : Nat} {ls : pL} {i : Nat} {v : Value} (hl : ls.length = nL) (h : pm_get ls i = some v) : (i, pm_v n0 sa v) ∈ pm_lp n0 sa nL ls := by
  unfold pm_lp
  refine List.mem_filterMap.mpr ⟨i, ?_, by rw [h]; rfl⟩
  rw [List.mem_range]
  unfold pm_get at h
  cases hi : ls[i]? with
  | none => rw [hi] at h; cases h
  | some o => rw [← hl]; exact (List.getElem?_eq_some_iff.mp hi).1
theorem pm_lr_has {n0 : Nat} {sa : Nat → Nat} {lsA : Array Slot} {nL : Nat} {ls : pL} (h : pm_lr n0 sa lsA nL ls) : lv_has lsA nL (pm_lp n0 sa nL ls) := by
  obtain ⟨h1, h2, h3, h4⟩ := h
  refine ⟨h2, h3, fun q hq => ?_⟩
  obtain ⟨i, -, hi⟩ := List.mem_filterMap.mp hq
  cases hg : pm_get ls i with
  | none => rw [hg] at hi; cases hi
  | some v => rw [hg] at hi; cases hi; exact h4 i v hg
theorem pm_get_set (ls : pL) (j : Nat) (x : Option Value) (i : Nat) : pm_get (ls.set j x) i = if j = i then (if j < ls.length then x else none) else pm_get ls i := by
  unfold pm_get
  by_cases h : j = i
  · subst h
    by_cases hl : j < ls.length
    · rw [List.getElem?_set_self hl, if_pos rfl, if_pos hl]; rfl
    · rw [List.getElem?_eq_none (by rw [List.length_set]; omega), if_pos rfl, if_neg hl]; rfl
  · rw [List.getElem?_set_ne h, if_neg h]
theorem pm_clr_len (ls : pL) (i : Nat) : (pm_clr ls i).length = ls.length := by
  unfold pm_clr
  split
  · rfl
  · split
    · split
      · rw [List.length_set]
      · rfl
    · rfl
theorem pm_set_len (ls : pL) (i : Nat) (v : Value) : (pm_set ls i v).length = ls.length := by
  unfold pm_set
  split
  · rw [List.length_set, List.length_set, pm_clr_len]
  · rw [List.length_set, pm_clr_len]
theorem pm_get_clr {ls : pL} {i j : Nat} {w : Value} (h : pm_get (pm_clr ls i) j = some w) : pm_get ls j = some w ∧ (j + 1 = i → w.category ≠ 2) := by
  unfold pm_clr at h
  split at h
  · exact ⟨h, fun q => by omega⟩
  · rename_i k
    split at h
    · rename_i u hu
      split at h
      · rw [pm_get_set] at h
        by_cases hk : k = j
        · rw [if_pos hk] at h
          split at h <;> cases h
        · rw [if_neg hk] at h
          exact ⟨h, fun q => by omega⟩
      · rename_i hc
        refine ⟨h, fun q => ?_⟩
        have hkj : k = j := by omega
        subst hkj
        rw [hu] at h
        cases h
        exact hc
    · rename_i hu
      refine ⟨h, fun q => ?_⟩
      have hkj : k = j := by omega
      subst hkj
      rw [hu] at h
      cases h
theorem pm_lr_set1 {n0 : Nat} {sa : Nat → Nat} {lsA : Array Slot} {nL : Nat} {ls : pL} {i : Nat} {v : Value} (hc : v.category = 1) (hl : ls.length = nL) (h : lv_has lsA nL ((i, pm_v n0 sa v) :: (pm_lp n0 sa nL ls).filter (fun q => !(q.1 == i) && !(q.1 + 1 == i && q.2.category == 2)))) : pm_lr n0 sa lsA nL (pm_set ls i v) := by
  refine ⟨by rw [pm_set_len, hl], h.1, h.2.1, fun j w hj => ?_⟩
  unfold pm_set at hj
  rw [if_neg (by omega), pm_get_set] at hj
  by_cases hij : i = j
  · subst hij
    rw [if_pos rfl] at hj
    split at hj
    · cases hj
      exact h.2.2 (i, _) List.mem_cons_self
    · cases hj
  · rw [if_neg hij] at hj
    obtain ⟨h1, h2⟩ := pm_get_clr hj
    refine h.2.2 (j, pm_v n0 sa w) (List.mem_cons_of_mem _ (List.mem_filter.mpr ⟨pm_lp_mem hl h1, ?_⟩))
    have e1 : (j == i) = false := by simp; omega
    simp only [e1, pm_v_cat, Bool.not_false, Bool.true_and, Bool.not_eq_true', Bool.and_eq_false_iff, beq_eq_false_iff_ne]
    by_cases hji : j + 1 = i
    · exact Or.inr (h2 hji)
    · exact Or.inl hji
theorem pm_lr_set2 {n0 : Nat} {sa : Nat → Nat} {lsA : Array Slot} {nL : Nat} {ls : pL} {i : Nat} {v : Value} (hc : v.category = 2) (hl : ls.length = nL) (h : lv_has lsA nL ((i, pm_v n0 sa v) :: (pm_lp n0 sa nL ls).filter (fun q => !(q.1 == i) && (!(q.1 == i + 1) && !(q.1 + 1 == i && q.2.category == 2))))) : pm_lr n0 sa lsA nL (pm_set ls i v) := by
  refine ⟨by rw [pm_set_len, hl], h.1, h.2.1, fun j w hj => ?_⟩
  unfold pm_set at hj
  rw [if_pos hc, pm_get_set] at hj
  by_cases hij1 : i + 1 = j
  · rw [if_pos hij1] at hj
    split at hj <;> cases hj
  · rw [if_neg hij1, pm_get_set] at hj
    by_cases hij : i = j
    · subst hij
      rw [if_pos rfl] at hj
      split at hj
      · cases hj
        exact h.2.2 (i, _) List.mem_cons_self
      · cases hj
    · rw [if_neg hij] at hj
      obtain ⟨h1, h2⟩ := pm_get_clr hj
      refine h.2.2 (j, pm_v n0 sa w) (List.mem_cons_of_mem _ (List.mem_filter.mpr ⟨pm_lp_mem hl h1, ?_⟩))
      have e1 : (j == i) = false := by simp; omega
      have e2 : (j == i + 1) = false := by simp; omega
      simp only [e1, e2, pm_v_cat, Bool.not_false, Bool.true_and, Bool.not_eq_true', Bool.and_eq_false_iff, beq_eq_false_iff_ne]
      by_cases hji : j + 1 = i
      · exact Or.inr (h2 hji)
      · exact Or.inl hji
theorem pm_fit_ok {n0 : Nat} {sa : Nat → Nat} {ty : FieldType} {v : Value} (h : pm_fit ty v = true) : narrow ty (pm_v n0 sa v) = pm_v n0 sa v ∧ fits ty (pm_v n0 sa v) = true := by
  unfold pm_fit at h
  split at h
  · exact ⟨rfl, rfl⟩
  · exact ⟨rfl, rfl⟩
  · rename_i x
    rcases (by simpa using h : x = 0 ∨ x = 1) with rfl | rfl <;> exact ⟨rfl, rfl⟩
  · exact ⟨rfl, rfl⟩
  · exact ⟨rfl, rfl⟩
  · cases h
end
section
def pm_len : Instr → Nat
  | .bipush _ => 2 | .sipush _ => 3 | .ldc _ => 2 | .ldc_w _ => 3 | .ldc2_w _ => 3 | .iload _ => 2 | .lload _ => 2 | .aload _ => 2 | .istore _ => 2 | .lstore _ => 2 | .astore _ => 2 | .iinc _ _ => 3
  | .goto _ => 3 | .ifCond _ _ => 3 | .if_icmp _ _ => 3 | .getfield _ => 3 | .putfield _ => 3 | .invokestatic _ => 3 | .invokevirtual _ => 3 | .invokespecial _ => 3 | .new _ => 3 | .newarray _ => 2 | .tableswitch _ _ _ _ => 0
  | _ => 1
def pm_off : Instr → Option Int
  | .goto o => some o
  | .ifCond _ o => some o
  | .if_icmp _ o => some o
  | _ => none
def pm_okI (cc : ByteArray) (pc : Nat) (ins : Instr) (tg : Nat) : Prop := (∃ len, decode cc pc = .ok (ins, len) ∧ (pm_len ins = 0 ∨ len = pm_len ins)) ∧ (∀ o, pm_off ins = some o → (pc : Int) + o = (tg : Int))
theorem pm_okI.d {cc : ByteArray} {pc : Nat} {ins : Instr} {tg : Nat} (h : pm_okI cc pc ins tg) {n : Nat} (hn : pm_len ins = n + 1) : decode cc pc = .ok (ins, n + 1) := by
  obtain ⟨⟨len, h1, h2⟩, -⟩ := h
  rcases h2 with h2 | h2
  · omega
  · rw [h1, h2, hn]
/-- the array classes: ints, longs, chars, booleans -/
def pm_tys (ck : Nat → ClassId) : List (ClassId × FieldType) := [(ck 0, .int), (ck 1, .long), (ck 2, .char), (ck 3, .boolean)]
/-- a body's surroundings -/
def pm_B (p : Program) (s : State) (m : MethodId) (args : Array Value) (meth : Method) (c : Code) (D : va_G) (ck : Nat → ClassId) (n0 : Nat) (C : pC) (cc : ByteArray) (nL : Nat) (own : String) (Ts : List Cond) (G : State → Prop) : Prop :=
  p.tables.exec = Jvm.exec ∧ c.code = cc ∧ c.maxLocals = nL ∧ s.vm.findClass own = some m.cls ∧ (∀ w ∈ Ts, w.before args s = true) ∧ meth.sig.returnType = pc_rt C ∧ meth.locks = false ∧ (∀ x ∈ c.exceptionTable.toList, False) ∧ (pc_ini C = true → meth.name = "<init>") ∧ va_K D vwCl (pm_tys ck) s ∧ n0 ≤ s.heap.size ∧ G s
/-- no cell more, each as long as it was -/
def pm_same (st t : State) : Prop := t.heap.size = st.heap.size ∧ ∀ (a : Nat) (c : Cell), st.heap[a]? = some c → ∃ c', t.heap[a]? = some c' ∧ c'.slots.size = c.slots.size
def pm_Qc (D : va_G) (n0 : Nat) (sa : Nat → Nat) (ck : Nat → ClassId) (al : Bool) (Q : pQ) : Array Value → State → Outcome → State → Prop := fun _ st o t => (al = false → pm_same st t) ∧ (∃ (v : Option Value) (S : pS), o = .returned (v.map (pm_v n0 sa)) ∧ Q (.inl v) S ∧ va_P D vwCl (pm_w n0 sa ck S) t.heap) ∧ va_F (fun q => n0 ≤ q) st t
def pm_XC (D : va_G) (n0 : Nat) (sa : Nat → Nat) (ck : Nat → ClassId) (Q : pQ) : String → State → State → Prop := fun E st t => (∃ S : pS, Q (.inr E) S ∧ va_P D vwCl (pm_w n0 sa ck S) t.heap) ∧ va_F (fun q => n0 ≤ q) st t
/-- what the pure machine's step is shown of -/
def pm_X (p : Program) (l : Launch) (e : Env) (R : Room) (s : State) (m : MethodId) (args : Array Value) (below : List Frame) (meth : Method) (c : Code) (D : va_G) (n0 : Nat) (sa : Nat → Nat) (ck : Nat → ClassId) (nL mc ms : Nat) (al : Bool) (Q : pQ) : pF := fun pc ls st uc us S =>
  ∀ (lsA : Array Slot) (H : Heap) (locs : List Loc), pm_lr n0 sa lsA nL ls → va_P D vwCl (pm_w n0 sa ck S) H → va_S (fun q => n0 ≤ q) s.heap H locs →
    W p l e R s m args below meth c H locs uc us (vx_MQ below (pm_Qc D n0 sa ck al Q) (pm_XC D n0 sa ck Q) args s mc ms (fun q => n0 ≤ q)) (F0 m pc lsA (st.map (pm_v n0 sa)))
def pm_okF (own : String) (Ts : List Cond) (ini : Bool) (i ci k : Nat) : Prop := ∃ (C' : String) (T : u_T) (N : Nat), vwCl[ci]? = some (C', T, N) ∧ k < N ∧ Cond.fieldLink own i (T k).1 (T k).2.1 (T k).2.2.1 ∈ Ts ∧ (ini = true → (T k).2.2.2 = true → (T k).1 = own)
def pm_okC (Ts : List Cond) : Prop := ∀ (ci : Nat) (C' : String) (T : u_T) (N : Nat), vwCl[ci]? = some (C', T, N) → (∀ w ∈ u_ws C' T N, w ∈ Ts) ∧ ∃ ty0 : Nat → FieldType, (∀ k, k < N → parseFieldDescriptor (T k).2.2.1 = some (ty0 k)) ∧ ∀ a, a < N → ∀ b, b < N → a ≠ b → (T a).2.1 ≠ (T b).2.1
section PMS
variable {p : Program} {l : Launch} {e : Env} {R : Room} {s : State} {m : MethodId} {args : Array Value} {below : List Frame} {meth : Method} {c : Code} {D : va_G} {n0 : Nat} {sa : Nat → Nat} {ck : Nat → ClassId} {nL mc ms : Nat} {al : Bool} {Q : pQ} {C : pC} {cc : ByteArray} {own : String} {Ts : List Cond} {G : State → Prop}
theorem so_iconst (B : pm_B p s m args meth c D ck n0 C cc nL own Ts G) {pc tg : Nat} {ls : pL} {st : List Value} {uc us : Nat} {S : pS} {n : Int} (hd : pm_okI cc pc (.iconst n) tg) (h : pm_X p l e R s m args below meth c D n0 sa ck nL mc ms al Q (pc + 1) ls (.int (Int32.ofInt n) :: st) uc us S) : pm_X p l e R s m args below meth c D n0 sa ck nL mc ms al Q pc ls st uc us S := by
  intro lsA H locs hl hP hS
  exact lv_iconst B.1 B.2.1 (hd.d rfl) rfl (h lsA H locs hl hP hS)
theorem so_iload (B : pm_B p s m args meth c D ck n0 C cc nL own Ts G) {pc tg : Nat} {ls : pL} {st : List Value} {uc us : Nat} {S : pS} {i : Nat} (hd : pm_okI cc pc (.iload i) tg) (h : pm_gi ls i (fun x => pm_X p l e R s m args below meth c D n0 sa ck nL mc ms al Q (pc + 2) ls (.int x :: st) uc us S)) : pm_X p l e R s m args below meth c D n0 sa ck nL mc ms al Q pc ls st uc us S := by
  intro lsA H locs hl hP hS
  obtain ⟨x, hg, h⟩ := pm_gi_e h
  exact lv_iload B.1 B.2.1 (hd.d rfl) (hl.2.2.2 _ _ hg) (h lsA H locs hl hP hS)
theorem so_iadd (B : pm_B p s m args meth c D ck n0 C cc nL own Ts G) {pc tg : Nat} {ls : pL} {st : List Value} {uc us : Nat} {S : pS} (hd : pm_okI cc pc .iadd tg) (h : pm_ii st (fun x y r => pm_X p l e R s m args below meth c D n0 sa ck nL mc ms al Q (pc + 1) ls (.int (x + y) :: r) uc us S)) : pm_X p l e R s m args below meth c D n0 sa ck nL mc ms al Q pc ls st uc us S := by
  intro lsA H locs hl hP hS
  obtain ⟨x, y, r, rfl, h⟩ := pm_ii_e h
  exact lv_iadd B.1 B.2.1 (hd.d rfl) (h lsA H locs hl hP hS)
theorem so_istore (B : pm_B p s m args meth c D ck n0 C cc nL own Ts G) {pc tg : Nat} {ls : pL} {st : List Value} {uc us : Nat} {S : pS} {i : Nat} (hd : pm_okI cc pc (.istore i) tg) (h : pm_i st (fun x r => i < ls.length ∧ pm_X p l e R s m args below meth c D n0 sa ck nL mc ms al Q (pc + 2) (pm_set ls i (.int x)) r uc us S)) : pm_X p l e R s m args below meth c D n0 sa ck nL mc ms al Q pc ls st uc us S := by
  intro lsA H locs hl hP hS
  obtain ⟨x, r, rfl, hi, h⟩ := pm_i_e h
  exact lv_istore B.1 B.2.1 (hd.d rfl) (pm_lr_has hl) (hl.1 ▸ hi) rfl (fun ls' h' => h ls' H locs (pm_lr_set1 (v := .int x) rfl hl.1 h') hP hS)
theorem so_getfield (B : pm_B p s m args meth c D ck n0 C cc nL own Ts G) (hC : pm_okC Ts) {pc tg : Nat} {ls : pL} {st : List Value} {uc us : Nat} {S : pS} {i ci k : Nat} (hd : pm_okI cc pc (.getfield i) tg) (hf : pm_okF own Ts (pc_ini C) i ci k) (h : pm_r st (fun a r => pm_ob S a ci (fun fs => pm_o (fs[k]?) (fun v => pm_X p l e R s m args below meth c D n0 sa ck nL mc ms al Q (pc + 3) ls (v :: r) uc us S)))) : pm_X p l e R s m args below meth c D n0 sa ck nL mc ms al Q pc ls st uc us S := by
  intro lsA H locs hl hP hS
  obtain ⟨a, r, rfl, h⟩ := pm_r_e h
  obtain ⟨ha, fs, hfs, h⟩ := pm_ob_e h
  obtain ⟨v, hv, h⟩ := pm_o_e h
  obtain ⟨hx, hb, hml, hown, hts, hr, hlocks, hex, hini, hK, hn0, hG⟩ := B
  obtain ⟨C', T, N, hc, hk, hlink, -⟩ := hf
  exact va_get (D := D) (ci := ci) (v := pm_v n0 sa v) (C := C') (T := T) (N := N) (fs := fs.map (pm_v n0 sa)) hx hb hts (hC _ _ _ _ hc).1 hown hK hP a (by rw [pm_w_get ha, hfs]; rfl) hc k hk (hts _ hlink) (fun _ h9 => h9) (by rw [List.getElem?_map, hv]; rfl) (hd.d rfl) (h lsA H locs hl hP hS)
theorem so_putfield (B : pm_B p s m args meth c D ck n0 C cc nL own Ts G) (hC : pm_okC Ts) {pc tg : Nat} {ls : pL} {st : List Value} {uc us : Nat} {S : pS} {i ci k : Nat} (hd : pm_okI cc pc (.putfield i) tg) (hf : pm_okF own Ts (pc_ini C) i ci k) (h : pm_vr st (fun v a r => pm_ob S a ci (fun fs => k < fs.length ∧ pm_o (pm_ft ci k) (fun t => pm_fit t.1 v = true ∧ (t.2 = true → pc_ini C = true) ∧ pm_X p l e R s m args below meth c D n0 sa ck nL mc ms al Q (pc + 3) ls r uc us (pm_up S a (.inr (ci, fs.set k v))))))) : pm_X p l e R s m args below meth c D n0 sa ck nL mc ms al Q pc ls st uc us S := by
  intro lsA H locs hl hP hS
  obtain ⟨v, a, r, rfl, h⟩ := pm_vr_e h
  obtain ⟨ha, fs, hfs, hkl, h⟩ := pm_ob_e h
  obtain ⟨t, ht, hfit, hfin, h⟩ := pm_o_e h
  obtain ⟨hx, hb, hml, hown, hts, hr, hlocks, hex, hini, hK, hn0, hG⟩ := B
  obtain ⟨C', T, N, hc, hk, hlink, hdecl⟩ := hf
  obtain ⟨hin, ty0, hty, hnm⟩ := hC _ _ _ _ hc
  unfold pm_ft at ht
  rw [hc] at ht
  dsimp only at ht
  rw [if_pos hk, hty k hk] at ht
  cases ht
  have e1 : (pm_w n0 sa ck S)[a]? = some (n0 + a, .inr (ci, fs.map (pm_v n0 sa))) := by rw [pm_w_get ha, hfs]; rfl
  have e2 : (pm_w n0 sa ck S).set a (n0 + a, .inr (ci, (fs.map (pm_v n0 sa)).set k (pm_v n0 sa v))) = pm_w n0 sa ck (pm_up S a (.inr (ci, fs.set k v))) := by
    rw [← pm_w_set]
    show _ = (pm_w n0 sa ck S).set a (n0 + a, .inr (ci, (fs.set k v).map (pm_v n0 sa)))
    rw [List.map_set]
  obtain ⟨f1, f2⟩ := pm_fit_ok (n0 := n0) (sa := sa) hfit
  cases hfb : (T k).2.2.2 with
  | false =>
    refine va_put (D := D) (ci := ci) (v := pm_v n0 sa v) (ty := ty0 k) (C := C') (T := T) (N := N) (fs := fs.map (pm_v n0 sa)) hx hb hts hin ty0 hty hnm hown hK hP pm_w_D hS a e1 hc k hk (hts _ hlink) (fun _ h9 => h9) hfb (hty k hk) f1 f2 (by rw [List.length_map]; exact hkl) (hd.d rfl) (fun H1 locs1 hP1 _ hS1 => ?_)
    rw [e2] at hP1
    exact h lsA H1 locs1 hl hP1 hS1
  | true =>
    refine va_putF (D := D) (ci := ci) (v := pm_v n0 sa v) (ty := ty0 k) (C := C') (T := T) (N := N) (fs := fs.map (pm_v n0 sa)) hx hb hts hin ty0 hty hnm hown hK hP pm_w_D hS a e1 hc k hk (hts _ hlink) (fun _ h9 => h9) hfb (hini (hfin hfb)) (hdecl (hfin hfb) hfb) (hty k hk) f1 f2 (by rw [List.length_map]; exact hkl) (hd.d rfl) (fun H1 locs1 hP1 _ hS1 => ?_)
    rw [e2] at hP1
    exact h lsA H1 locs1 hl hP1 hS1
theorem so_iaload (B : pm_B p s m args meth c D ck n0 C cc nL own Ts G) {pc tg : Nat} {ls : pL} {st : List Value} {uc us : Nat} {S : pS} (hd : pm_okI cc pc .iaload tg) (h : pm_ir st (fun i a r => pm_ar S a 0 (fun n f => pm_ix i n (pm_X p l e R s m args below meth c D n0 sa ck nL mc ms al Q (pc + 1) ls (.int (f i.toNatClampNeg) :: r) uc us S)))) : pm_X p l e R s m args below meth c D n0 sa ck nL mc ms al Q pc ls st uc us S := by
  intro lsA H locs hl hP hS
  obtain ⟨i, a, r, rfl, h⟩ := pm_ir_e h
  obtain ⟨ha, n, f, hf, hi, h⟩ := pm_ar_e h
  obtain ⟨hx, hb, hml, hown, hts, hr, hlocks, hex, hini, hK, hn0, hG⟩ := B
  exact va_iald (cA := ck 0) (n := n) (f := f) hx hb hK hP a 0 (by rw [pm_w_get ha, hf]; rfl) rfl hi (hd.d rfl) (h lsA H locs hl hP hS)
theorem so_iastore (B : pm_B p s m args meth c D ck n0 C cc nL own Ts G) {pc tg : Nat} {ls : pL} {st : List Value} {uc us : Nat} {S : pS} (hd : pm_okI cc pc .iastore tg) (h : pm_iir st (fun x i a r => pm_ar S a 0 (fun n f => pm_ix i n (pm_X p l e R s m args below meth c D n0 sa ck nL mc ms al Q (pc + 1) ls r uc us (pm_up S a (.inl (0, n, .inl (upd f i.toNatClampNeg x)))))))) : pm_X p l e R s m args below meth c D n0 sa ck nL mc ms al Q pc ls st uc us S := by
  intro lsA H locs hl hP hS
  obtain ⟨x, i, a, r, rfl, h⟩ := pm_iir_e h
  obtain ⟨ha, n, f, hf, hi, h⟩ := pm_ar_e h
  obtain ⟨hx, hb, hml, hown, hts, hr, hlocks, hex, hini, hK, hn0, hG⟩ := B
  refine va_iast (cA := ck 0) (n := n) (f := f) hx hb hK hP pm_w_D hS a 0 (by rw [pm_w_get ha, hf]; rfl) rfl hi (hd.d rfl) (fun H1 locs1 hP1 _ hS1 => ?_)
  exact h lsA H1 locs1 hl ((pm_w_set (n0 := n0) (sa := sa) (ck := ck) (S := S) (i := a) (.inl (0, n, .inl (upd f i.toNatClampNeg x)))) ▸ hP1) hS1
/-- what a body knows of the cells that were there, and of how many there are -/
theorem pm_ends {H : Heap} {locs : List Loc} {uc us : Nat} {Qf : State → Prop} {g : JFrame} (hu : al = false → uc = 0 ∧ us = 0) (k : (al = false → ∀ t : State, t.heap = H → pm_same s t) → W p l e R s m args below meth c H locs uc us Qf g) : W p l e R s m args below meth c H locs uc us Qf g := by
  intro T hT X
  refine k (fun ha t ht => ?_) T hT X
  have h3 : T.heap.size ≤ s.heap.size + uc := X.heapSize
  have h2 : s.heap.size ≤ T.heap.size := X.same.2.1
  have h6 := X.same.2.2.2.2.2
  refine ⟨?_, fun a c0 h0 => ?_⟩
  · rw [ht, ← hT]
    have := (hu ha).1
    omega
  · obtain ⟨c', e1, e2, e3, -⟩ := h6 a c0 h0
    exact ⟨c', by rw [ht, ← hT]; exact e1, e3⟩
theorem so_ireturn (B : pm_B p s m args meth c D ck n0 C cc nL own Ts G) {pc tg : Nat} {ls : pL} {st : List Value} {uc us : Nat} {S : pS} (hu : uc ≤ mc ∧ us ≤ ms) (hd : pm_okI cc pc .ireturn tg) (h : pm_i st (fun x r => r = [] ∧ pm_o (pc_rt C) (fun ty => pm_fit ty (.int x) = true ∧ (al = false → uc = 0 ∧ us = 0) ∧ Q (.inl (some (.int x))) S))) : pm_X p l e R s m args below meth c D n0 sa ck nL mc ms al Q pc ls st uc us S := by
  intro lsA H locs hl hP hS
  obtain ⟨x, r, rfl, h0, h2⟩ := pm_i_e h
  subst h0
  clear h
  obtain ⟨ty, ht, hf, ha, h⟩ := pm_o_e h2
  obtain ⟨hx, hb, hml, hown, hts, hr, hlocks, hex, hini, hK, hn0, hG⟩ := B
  refine pm_ends (al := al) ha (fun hsm => ?_)
  refine W.widen (k := mc) (n := ms) hu.1 hu.2 (vx_ret ?_)
  exact W.zret (v := x) (ty := ty) hx hb (hr.trans ht) (pm_fit_ok (n0 := n0) (sa := sa) hf).1 (fun t ht hW => ⟨fun q => hsm q t ht, ⟨some (.int x), S, rfl, h, by rw [ht]; exact hP⟩, hS.F ht⟩) hS.2.2 (hd.d rfl) hlocks
end PMS
end
section
section PMT
variable {p : Program} {l : Launch} {e : Env} {R : Room} {s : State} {m : MethodId} {args : Array Value} {below : List Frame} {meth : Method} {c : Code} {D : va_G} {n0 : Nat} {sa : Nat → Nat} {ck : Nat → ClassId} {nL mc ms : Nat} {al : Bool} {Q : pQ} {C : pC} {cc : ByteArray} {own : String} {Ts : List Cond} {G : State → Prop}
theorem so_bipush (B : pm_B p s m args meth c D ck n0 C cc nL own Ts G) {pc tg : Nat} {ls : pL} {st : List Value} {uc us : Nat} {S : pS} {n : Int} (hd : pm_okI cc pc (.bipush n) tg) (h : pm_X p l e R s m args below meth c D n0 sa ck nL mc ms al Q (pc + 2) ls (.int (Int8.ofInt n).toInt32 :: st) uc us S) : pm_X p l e R s m args below meth c D n0 sa ck nL mc ms al Q pc ls st uc us S := by
  intro lsA H locs hl hP hS
  exact lv_bipush B.1 B.2.1 (hd.d rfl) rfl (h lsA H locs hl hP hS)
theorem so_sipush (B : pm_B p s m args meth c D ck n0 C cc nL own Ts G) {pc tg : Nat} {ls : pL} {st : List Value} {uc us : Nat} {S : pS} {n : Int} (hd : pm_okI cc pc (.sipush n) tg) (h : pm_X p l e R s m args below meth c D n0 sa ck nL mc ms al Q (pc + 3) ls (.int (Int16.ofInt n).toInt32 :: st) uc us S) : pm_X p l e R s m args below meth c D n0 sa ck nL mc ms al Q pc ls st uc us S := by
  intro lsA H locs hl hP hS
  exact lv_sipush B.1 B.2.1 (hd.d rfl) rfl (h lsA H locs hl hP hS)
theorem so_lconst (B : pm_B p s m args meth c D ck n0 C cc nL own Ts G) {pc tg : Nat} {ls : pL} {st : List Value} {uc us : Nat} {S : pS} {n : Fin 2} (hd : pm_okI cc pc (.lconst n) tg) (h : pm_X p l e R s m args below meth c D n0 sa ck nL mc ms al Q (pc + 1) ls (.long (Int64.ofNat (n : Nat)) :: st) uc us S) : pm_X p l e R s m args below meth c D n0 sa ck nL mc ms al Q pc ls st uc us S := by
  intro lsA H locs hl hP hS
  exact lv_lconst B.1 B.2.1 (hd.d rfl) rfl (h lsA H locs hl hP hS)
theorem so_iload_n (B : pm_B p s m args meth c D ck n0 C cc nL own Ts G) {pc tg : Nat} {ls : pL} {st : List Value} {uc us : Nat} {S : pS} {i : Fin 4} (hd : pm_okI cc pc (.iload_n i) tg) (h : pm_gi ls i (fun x => pm_X p l e R s m args below meth c D n0 sa ck nL mc ms al Q (pc + 1) ls (.int x :: st) uc us S)) : pm_X p l e R s m args below meth c D n0 sa ck nL mc ms al Q pc ls st uc us S := by
  intro lsA H locs hl hP hS
  obtain ⟨x, hg, h⟩ := pm_gi_e h
  exact lv_iload_n B.1 B.2.1 (hd.d rfl) rfl (hl.2.2.2 _ _ hg) (h lsA H locs hl hP hS)
theorem so_lload (B : pm_B p s m args meth c D ck n0 C cc nL own Ts G) {pc tg : Nat} {ls : pL} {st : List Value} {uc us : Nat} {S : pS} {i : Nat} (hd : pm_okI cc pc (.lload i) tg) (h : pm_gl ls i (fun x => pm_X p l e R s m args below meth c D n0 sa ck nL mc ms al Q (pc + 2) ls (.long x :: st) uc us S)) : pm_X p l e R s m args below meth c D n0 sa ck nL mc ms al Q pc ls st uc us S := by
  intro lsA H locs hl hP hS
  obtain ⟨x, hg, h⟩ := pm_gl_e h
  exact lv_lload B.1 B.2.1 (hd.d rfl) (hl.2.2.2 _ _ hg) (h lsA H locs hl hP hS)
theorem so_lload_n (B : pm_B p s m args meth c D ck n0 C cc nL own Ts G) {pc tg : Nat} {ls : pL} {st : List Value} {uc us : Nat} {S : pS} {i : Fin 4} (hd : pm_okI cc pc (.lload_n i) tg) (h : pm_gl ls i (fun x => pm_X p l e R s m args below meth c D n0 sa ck nL mc ms al Q (pc + 1) ls (.long x :: st) uc us S)) : pm_X p l e R s m args below meth c D n0 sa ck nL mc ms al Q pc ls st uc us S := by
  intro lsA H locs hl hP hS
  obtain ⟨x, hg, h⟩ := pm_gl_e h
  exact lv_lload_n B.1 B.2.1 (hd.d rfl) rfl (hl.2.2.2 _ _ hg) (h lsA H locs hl hP hS)
theorem so_aload (B : pm_B p s m args meth c D ck n0 C cc nL own Ts G) {pc tg : Nat} {ls : pL} {st : List Value} {uc us : Nat} {S : pS} {i : Nat} (hd : pm_okI cc pc (.aload i) tg) (h : pm_ga ls i (fun v => pm_X p l e R s m args below meth c D n0 sa ck nL mc ms al Q (pc + 2) ls (v :: st) uc us S)) : pm_X p l e R s m args below meth c D n0 sa ck nL mc ms al Q pc ls st uc us S := by
  intro lsA H locs hl hP hS
  obtain ⟨v, hg, hv, h⟩ := pm_ga_e h
  obtain ⟨a, ea⟩ := pm_v_isr (n0 := n0) (sa := sa) hv
  have h := h lsA H locs hl hP hS
  rw [List.map_cons, ea] at h
  exact lv_aload B.1 B.2.1 (hd.d rfl) (ea ▸ hl.2.2.2 _ _ hg) h
theorem so_astore (B : pm_B p s m args meth c D ck n0 C cc nL own Ts G) {pc tg : Nat} {ls : pL} {st : List Value} {uc us : Nat} {S : pS} {i : Nat} (hd : pm_okI cc pc (.astore i) tg) (h : pm_a st (fun v r => (i : Nat) < ls.length ∧ pm_X p l e R s m args below meth c D n0 sa ck nL mc ms al Q (pc + 2) (pm_set ls i v) r uc us S)) : pm_X p l e R s m args below meth c D n0 sa ck nL mc ms al Q pc ls st uc us S := by
  intro lsA H locs hl hP hS
  obtain ⟨v, r, rfl, hv, hi, h⟩ := pm_a_e h
  obtain ⟨a, ea⟩ := pm_v_isr (n0 := n0) (sa := sa) hv
  have hc : v.category = 1 := by rw [← pm_v_cat n0 sa v, ea]; rfl
  rw [List.map_cons, ea]
  exact lv_astore B.1 B.2.1 (hd.d rfl) (pm_lr_has hl) (hl.1 ▸ hi) rfl (fun ls' h' => h ls' H locs (pm_lr_set1 (v := v) hc hl.1 (ea.symm ▸ h')) hP hS)
theorem so_aload_n (B : pm_B p s m args meth c D ck n0 C cc nL own Ts G) {pc tg : Nat} {ls : pL} {st : List Value} {uc us : Nat} {S : pS} {i : Fin 4} (hd : pm_okI cc pc (.aload_n i) tg) (h : pm_ga ls i (fun v => pm_X p l e R s m args below meth c D n0 sa ck nL mc ms al Q (pc + 1) ls (v :: st) uc us S)) : pm_X p l e R s m args below meth c D n0 sa ck nL mc ms al Q pc ls st uc us S := by
  intro lsA H locs hl hP hS
  obtain ⟨v, hg, hv, h⟩ := pm_ga_e h
  obtain ⟨a, ea⟩ := pm_v_isr (n0 := n0) (sa := sa) hv
  have h := h lsA H locs hl hP hS
  rw [List.map_cons, ea] at h
  exact lv_aload_n B.1 B.2.1 (hd.d rfl) rfl (ea ▸ hl.2.2.2 _ _ hg) h
theorem so_astore_n (B : pm_B p s m args meth c D ck n0 C cc nL own Ts G) {pc tg : Nat} {ls : pL} {st : List Value} {uc us : Nat} {S : pS} {i : Fin 4} (hd : pm_okI cc pc (.astore_n i) tg) (h : pm_a st (fun v r => (i : Nat) < ls.length ∧ pm_X p l e R s m args below meth c D n0 sa ck nL mc ms al Q (pc + 1) (pm_set ls i v) r uc us S)) : pm_X p l e R s m args below meth c D n0 sa ck nL mc ms al Q pc ls st uc us S := by
  intro lsA H locs hl hP hS
  obtain ⟨v, r, rfl, hv, hi, h⟩ := pm_a_e h
  obtain ⟨a, ea⟩ := pm_v_isr (n0 := n0) (sa := sa) hv
  have hc : v.category = 1 := by rw [← pm_v_cat n0 sa v, ea]; rfl
  rw [List.map_cons, ea]
  exact lv_astore_n B.1 B.2.1 (hd.d rfl) rfl (pm_lr_has hl) (hl.1 ▸ hi) rfl (fun ls' h' => h ls' H locs (pm_lr_set1 (v := v) hc hl.1 (ea.symm ▸ h')) hP hS)
theorem so_istore_n (B : pm_B p s m args meth c D ck n0 C cc nL own Ts G) {pc tg : Nat} {ls : pL} {st : List Value} {uc us : Nat} {S : pS} {i : Fin 4} (hd : pm_okI cc pc (.istore_n i) tg) (h : pm_i st (fun x r => (i : Nat) < ls.length ∧ pm_X p l e R s m args below meth c D n0 sa ck nL mc ms al Q (pc + 1) (pm_set ls i (.int x)) r uc us S)) : pm_X p l e R s m args below meth c D n0 sa ck nL mc ms al Q pc ls st uc us S := by
  intro lsA H locs hl hP hS
  obtain ⟨x, r, rfl, hi, h⟩ := pm_i_e h
  exact lv_istore_n B.1 B.2.1 (hd.d rfl) rfl (pm_lr_has hl) (hl.1 ▸ hi) rfl (fun ls' h' => h ls' H locs (pm_lr_set1 (v := .int x) rfl hl.1 h') hP hS)
theorem so_lstore (B : pm_B p s m args meth c D ck n0 C cc nL own Ts G) {pc tg : Nat} {ls : pL} {st : List Value} {uc us : Nat} {S : pS} {i : Nat} (hd : pm_okI cc pc (.lstore i) tg) (h : pm_l st (fun x r => (i : Nat) + 1 < ls.length ∧ pm_X p l e R s m args below meth c D n0 sa ck nL mc ms al Q (pc + 2) (pm_set ls i (.long x)) r uc us S)) : pm_X p l e R s m args below meth c D n0 sa ck nL mc ms al Q pc ls st uc us S := by
  intro lsA H locs hl hP hS
  obtain ⟨x, r, rfl, hi, h⟩ := pm_l_e h
  exact lv_lstore B.1 B.2.1 (hd.d rfl) (pm_lr_has hl) (hl.1 ▸ hi) rfl (fun ls' h' => h ls' H locs (pm_lr_set2 (v := .long x) rfl hl.1 h') hP hS)
theorem so_lstore_n (B : pm_B p s m args meth c D ck n0 C cc nL own Ts G) {pc tg : Nat} {ls : pL} {st : List Value} {uc us : Nat} {S : pS} {i : Fin 4} (hd : pm_okI cc pc (.lstore_n i) tg) (h : pm_l st (fun x r => (i : Nat) + 1 < ls.length ∧ pm_X p l e R s m args below meth c D n0 sa ck nL mc ms al Q (pc + 1) (pm_set ls i (.long x)) r uc us S)) : pm_X p l e R s m args below meth c D n0 sa ck nL mc ms al Q pc ls st uc us S := by
  intro lsA H locs hl hP hS
  obtain ⟨x, r, rfl, hi, h⟩ := pm_l_e h
  exact lv_lstore_n B.1 B.2.1 (hd.d rfl) rfl (pm_lr_has hl) (hl.1 ▸ hi) rfl (fun ls' h' => h ls' H locs (pm_lr_set2 (v := .long x) rfl hl.1 h') hP hS)
theorem so_iinc (B : pm_B p s m args meth c D ck n0 C cc nL own Ts G) {pc tg : Nat} {ls : pL} {st : List Value} {uc us : Nat} {S : pS} {i : Nat} {n : Int} (hd : pm_okI cc pc (.iinc i n) tg) (h : pm_gi ls i (fun x => i < ls.length ∧ pm_X p l e R s m args below meth c D n0 sa ck nL mc ms al Q (pc + 3) (pm_set ls i (.int (x + Int32.ofInt n))) st uc us S)) : pm_X p l e R s m args below meth c D n0 sa ck nL mc ms al Q pc ls st uc us S := by
  intro lsA H locs hl hP hS
  obtain ⟨x, hg, hi, h⟩ := pm_gi_e h
  obtain ⟨k, hk⟩ := List.getElem?_of_mem (pm_lp_mem (n0 := n0) (sa := sa) hl.1 hg)
  exact lv_iinc (k := k) B.1 B.2.1 (hd.d rfl) (pm_lr_has hl) hk rfl (hl.1 ▸ hi) rfl (fun ls' h' => h ls' H locs (pm_lr_set1 (v := .int (x + Int32.ofInt n)) rfl hl.1 h') hP hS)
theorem so_isub (B : pm_B p s m args meth c D ck n0 C cc nL own Ts G) {pc tg : Nat} {ls : pL} {st : List Value} {uc us : Nat} {S : pS}  (hd : pm_okI cc pc (.isub) tg) (h : pm_ii st (fun x y r => pm_X p l e R s m args below meth c D n0 sa ck nL mc ms al Q (pc + 1) ls (.int (x - y) :: r) uc us S)) : pm_X p l e R s m args below meth c D n0 sa ck nL mc ms al Q pc ls st uc us S := by
  intro lsA H locs hl hP hS
  obtain ⟨x, y, r, rfl, h⟩ := pm_ii_e h
  exact lv_isub B.1 B.2.1 (hd.d rfl) (h lsA H locs hl hP hS)
theorem so_imul (B : pm_B p s m args meth c D ck n0 C cc nL own Ts G) {pc tg : Nat} {ls : pL} {st : List Value} {uc us : Nat} {S : pS}  (hd : pm_okI cc pc (.imul) tg) (h : pm_ii st (fun x y r => pm_X p l e R s m args below meth c D n0 sa ck nL mc ms al Q (pc + 1) ls (.int (x * y) :: r) uc us S)) : pm_X p l e R s m args below meth c D n0 sa ck nL mc ms al Q pc ls st uc us S := by
  intro lsA H locs hl hP hS
  obtain ⟨x, y, r, rfl, h⟩ := pm_ii_e h
  exact lv_imul B.1 B.2.1 (hd.d rfl) (h lsA H locs hl hP hS)
theorem so_iand (B : pm_B p s m args meth c D ck n0 C cc nL own Ts G) {pc tg : Nat} {ls : pL} {st : List Value} {uc us : Nat} {S : pS}  (hd : pm_okI cc pc (.iand) tg) (h : pm_ii st (fun x y r => pm_X p l e R s m args below meth c D n0 sa ck nL mc ms al Q (pc + 1) ls (.int (x &&& y) :: r) uc us S)) : pm_X p l e R s m args below meth c D n0 sa ck nL mc ms al Q pc ls st uc us S := by
  intro lsA H locs hl hP hS
  obtain ⟨x, y, r, rfl, h⟩ := pm_ii_e h
  exact lv_iand B.1 B.2.1 (hd.d rfl) (h lsA H locs hl hP hS)
theorem so_ior (B : pm_B p s m args meth c D ck n0 C cc nL own Ts G) {pc tg : Nat} {ls : pL} {st : List Value} {uc us : Nat} {S : pS}  (hd : pm_okI cc pc (.ior) tg) (h : pm_ii st (fun x y r => pm_X p l e R s m args below meth c D n0 sa ck nL mc ms al Q (pc + 1) ls (.int (x ||| y) :: r) uc us S)) : pm_X p l e R s m args below meth c D n0 sa ck nL mc ms al Q pc ls st uc us S := by
  intro lsA H locs hl hP hS
  obtain ⟨x, y, r, rfl, h⟩ := pm_ii_e h
  exact lv_ior B.1 B.2.1 (hd.d rfl) (h lsA H locs hl hP hS)
theorem so_ixor (B : pm_B p s m args meth c D ck n0 C cc nL own Ts G) {pc tg : Nat} {ls : pL} {st : List Value} {uc us : Nat} {S : pS}  (hd : pm_okI cc pc (.ixor) tg) (h : pm_ii st (fun x y r => pm_X p l e R s m args below meth c D n0 sa ck nL mc ms al Q (pc + 1) ls (.int (x ^^^ y) :: r) uc us S)) : pm_X p l e R s m args below meth c D n0 sa ck nL mc ms al Q pc ls st uc us S := by
  intro lsA H locs hl hP hS
  obtain ⟨x, y, r, rfl, h⟩ := pm_ii_e h
  exact lv_ixor B.1 B.2.1 (hd.d rfl) (h lsA H locs hl hP hS)
theorem so_ishl (B : pm_B p s m args meth c D ck n0 C cc nL own Ts G) {pc tg : Nat} {ls : pL} {st : List Value} {uc us : Nat} {S : pS}  (hd : pm_okI cc pc (.ishl) tg) (h : pm_ii st (fun x y r => pm_X p l e R s m args below meth c D n0 sa ck nL mc ms al Q (pc + 1) ls (.int (x <<< (y &&& 31)) :: r) uc us S)) : pm_X p l e R s m args below meth c D n0 sa ck nL mc ms al Q pc ls st uc us S := by
  intro lsA H locs hl hP hS
  obtain ⟨x, y, r, rfl, h⟩ := pm_ii_e h
  exact lv_ishl B.1 B.2.1 (hd.d rfl) (h lsA H locs hl hP hS)
theorem so_ishr (B : pm_B p s m args meth c D ck n0 C cc nL own Ts G) {pc tg : Nat} {ls : pL} {st : List Value} {uc us : Nat} {S : pS}  (hd : pm_okI cc pc (.ishr) tg) (h : pm_ii st (fun x y r => pm_X p l e R s m args below meth c D n0 sa ck nL mc ms al Q (pc + 1) ls (.int (x >>> (y &&& 31)) :: r) uc us S)) : pm_X p l e R s m args below meth c D n0 sa ck nL mc ms al Q pc ls st uc us S := by
  intro lsA H locs hl hP hS
  obtain ⟨x, y, r, rfl, h⟩ := pm_ii_e h
  exact lv_ishr B.1 B.2.1 (hd.d rfl) (h lsA H locs hl hP hS)
theorem so_iushr (B : pm_B p s m args meth c D ck n0 C cc nL own Ts G) {pc tg : Nat} {ls : pL} {st : List Value} {uc us : Nat} {S : pS}  (hd : pm_okI cc pc (.iushr) tg) (h : pm_ii st (fun x y r => pm_X p l e R s m args below meth c D n0 sa ck nL mc ms al Q (pc + 1) ls (.int (x.toUInt32 >>> (y.toUInt32 &&& Int32.toUInt32 31)).toInt32 :: r) uc us S)) : pm_X p l e R s m args below meth c D n0 sa ck nL mc ms al Q pc ls st uc us S := by
  intro lsA H locs hl hP hS
  obtain ⟨x, y, r, rfl, h⟩ := pm_ii_e h
  exact lv_iushr B.1 B.2.1 (hd.d rfl) rfl (h lsA H locs hl hP hS)
theorem so_idiv (B : pm_B p s m args meth c D ck n0 C cc nL own Ts G) {pc tg : Nat} {ls : pL} {st : List Value} {uc us : Nat} {S : pS}  (hd : pm_okI cc pc (.idiv) tg) (h : pm_ii st (fun x y r => ¬ y = 0 ∧ pm_X p l e R s m args below meth c D n0 sa ck nL mc ms al Q (pc + 1) ls (.int (x / y) :: r) uc us S)) : pm_X p l e R s m args below meth c D n0 sa ck nL mc ms al Q pc ls st uc us S := by
  intro lsA H locs hl hP hS
  obtain ⟨x, y, r, rfl, hy, h⟩ := pm_ii_e h
  exact lv_idiv B.1 B.2.1 (hd.d rfl) hy (h lsA H locs hl hP hS)
theorem so_irem (B : pm_B p s m args meth c D ck n0 C cc nL own Ts G) {pc tg : Nat} {ls : pL} {st : List Value} {uc us : Nat} {S : pS}  (hd : pm_okI cc pc (.irem) tg) (h : pm_ii st (fun x y r => ¬ y = 0 ∧ pm_X p l e R s m args below meth c D n0 sa ck nL mc ms al Q (pc + 1) ls (.int (x - x / y * y) :: r) uc us S)) : pm_X p l e R s m args below meth c D n0 sa ck nL mc ms al Q pc ls st uc us S := by
  intro lsA H locs hl hP hS
  obtain ⟨x, y, r, rfl, hy, h⟩ := pm_ii_e h
  exact lv_irem B.1 B.2.1 (hd.d rfl) hy (h lsA H locs hl hP hS)
theorem so_ladd (B : pm_B p s m args meth c D ck n0 C cc nL own Ts G) {pc tg : Nat} {ls : pL} {st : List Value} {uc us : Nat} {S : pS}  (hd : pm_okI cc pc (.ladd) tg) (h : pm_ll st (fun x y r => pm_X p l e R s m args below meth c D n0 sa ck nL mc ms al Q (pc + 1) ls (.long (x + y) :: r) uc us S)) : pm_X p l e R s m args below meth c D n0 sa ck nL mc ms al Q pc ls st uc us S := by
  intro lsA H locs hl hP hS
  obtain ⟨x, y, r, rfl, h⟩ := pm_ll_e h
  exact lv_ladd B.1 B.2.1 (hd.d rfl) (h lsA H locs hl hP hS)
theorem so_lsub (B : pm_B p s m args meth c D ck n0 C cc nL own Ts G) {pc tg : Nat} {ls : pL} {st : List Value} {uc us : Nat} {S : pS}  (hd : pm_okI cc pc (.lsub) tg) (h : pm_ll st (fun x y r => pm_X p l e R s m args below meth c D n0 sa ck nL mc ms al Q (pc + 1) ls (.long (x - y) :: r) uc us S)) : pm_X p l e R s m args below meth c D n0 sa ck nL mc ms al Q pc ls st uc us S := by
  intro lsA H locs hl hP hS
  obtain ⟨x, y, r, rfl, h⟩ := pm_ll_e h
  exact lv_lsub B.1 B.2.1 (hd.d rfl) (h lsA H locs hl hP hS)
theorem so_land (B : pm_B p s m args meth c D ck n0 C cc nL own Ts G) {pc tg : Nat} {ls : pL} {st : List Value} {uc us : Nat} {S : pS}  (hd : pm_okI cc pc (.land) tg) (h : pm_ll st (fun x y r => pm_X p l e R s m args below meth c D n0 sa ck nL mc ms al Q (pc + 1) ls (.long (x &&& y) :: r) uc us S)) : pm_X p l e R s m args below meth c D n0 sa ck nL mc ms al Q pc ls st uc us S := by
  intro lsA H locs hl hP hS
  obtain ⟨x, y, r, rfl, h⟩ := pm_ll_e h
  exact lv_land B.1 B.2.1 (hd.d rfl) (h lsA H locs hl hP hS)
theorem so_lor (B : pm_B p s m args meth c D ck n0 C cc nL own Ts G) {pc tg : Nat} {ls : pL} {st : List Value} {uc us : Nat} {S : pS}  (hd : pm_okI cc pc (.lor) tg) (h : pm_ll st (fun x y r => pm_X p l e R s m args below meth c D n0 sa ck nL mc ms al Q (pc + 1) ls (.long (x ||| y) :: r) uc us S)) : pm_X p l e R s m args below meth c D n0 sa ck nL mc ms al Q pc ls st uc us S := by
  intro lsA H locs hl hP hS
  obtain ⟨x, y, r, rfl, h⟩ := pm_ll_e h
  exact lv_lor B.1 B.2.1 (hd.d rfl) (h lsA H locs hl hP hS)
theorem so_lxor (B : pm_B p s m args meth c D ck n0 C cc nL own Ts G) {pc tg : Nat} {ls : pL} {st : List Value} {uc us : Nat} {S : pS}  (hd : pm_okI cc pc (.lxor) tg) (h : pm_ll st (fun x y r => pm_X p l e R s m args below meth c D n0 sa ck nL mc ms al Q (pc + 1) ls (.long (x ^^^ y) :: r) uc us S)) : pm_X p l e R s m args below meth c D n0 sa ck nL mc ms al Q pc ls st uc us S := by
  intro lsA H locs hl hP hS
  obtain ⟨x, y, r, rfl, h⟩ := pm_ll_e h
  exact lv_lxor B.1 B.2.1 (hd.d rfl) (h lsA H locs hl hP hS)
theorem so_lcmp (B : pm_B p s m args meth c D ck n0 C cc nL own Ts G) {pc tg : Nat} {ls : pL} {st : List Value} {uc us : Nat} {S : pS}  (hd : pm_okI cc pc (.lcmp) tg) (h : pm_ll st (fun x y r => pm_X p l e R s m args below meth c D n0 sa ck nL mc ms al Q (pc + 1) ls (.int (lg_cmp x y) :: r) uc us S)) : pm_X p l e R s m args below meth c D n0 sa ck nL mc ms al Q pc ls st uc us S := by
  intro lsA H locs hl hP hS
  obtain ⟨x, y, r, rfl, h⟩ := pm_ll_e h
  exact W.lcmp B.1 B.2.1 (hd.d rfl) (h lsA H locs hl hP hS)
theorem so_lshl (B : pm_B p s m args meth c D ck n0 C cc nL own Ts G) {pc tg : Nat} {ls : pL} {st : List Value} {uc us : Nat} {S : pS}  (hd : pm_okI cc pc (.lshl) tg) (h : pm_li st (fun x y r => pm_X p l e R s m args below meth c D n0 sa ck nL mc ms al Q (pc + 1) ls (.long (x <<< (y.toInt64 &&& 63)) :: r) uc us S)) : pm_X p l e R s m args below meth c D n0 sa ck nL mc ms al Q pc ls st uc us S := by
  intro lsA H locs hl hP hS
  obtain ⟨x, y, r, rfl, h⟩ := pm_li_e h
  exact lv_lshl B.1 B.2.1 (hd.d rfl) rfl (h lsA H locs hl hP hS)
theorem so_lushr (B : pm_B p s m args meth c D ck n0 C cc nL own Ts G) {pc tg : Nat} {ls : pL} {st : List Value} {uc us : Nat} {S : pS}  (hd : pm_okI cc pc (.lushr) tg) (h : pm_li st (fun x y r => pm_X p l e R s m args below meth c D n0 sa ck nL mc ms al Q (pc + 1) ls (.long (x.toUInt64 >>> (y.toInt64.toUInt64 &&& Int64.toUInt64 63)).toInt64 :: r) uc us S)) : pm_X p l e R s m args below meth c D n0 sa ck nL mc ms al Q pc ls st uc us S := by
  intro lsA H locs hl hP hS
  obtain ⟨x, y, r, rfl, h⟩ := pm_li_e h
  exact lv_lushr B.1 B.2.1 (hd.d rfl) rfl (h lsA H locs hl hP hS)
theorem so_i2l (B : pm_B p s m args meth c D ck n0 C cc nL own Ts G) {pc tg : Nat} {ls : pL} {st : List Value} {uc us : Nat} {S : pS}  (hd : pm_okI cc pc (.i2l) tg) (h : pm_i st (fun x r => pm_X p l e R s m args below meth c D n0 sa ck nL mc ms al Q (pc + 1) ls (.long x.toInt64 :: r) uc us S)) : pm_X p l e R s m args below meth c D n0 sa ck nL mc ms al Q pc ls st uc us S := by
  intro lsA H locs hl hP hS
  obtain ⟨x, r, rfl, h⟩ := pm_i_e h
  exact lv_i2l B.1 B.2.1 (hd.d rfl) rfl (h lsA H locs hl hP hS)
theorem so_l2i (B : pm_B p s m args meth c D ck n0 C cc nL own Ts G) {pc tg : Nat} {ls : pL} {st : List Value} {uc us : Nat} {S : pS}  (hd : pm_okI cc pc (.l2i) tg) (h : pm_l st (fun x r => pm_X p l e R s m args below meth c D n0 sa ck nL mc ms al Q (pc + 1) ls (.int x.toInt32 :: r) uc us S)) : pm_X p l e R s m args below meth c D n0 sa ck nL mc ms al Q pc ls st uc us S := by
  intro lsA H locs hl hP hS
  obtain ⟨x, r, rfl, h⟩ := pm_l_e h
  exact lv_l2i B.1 B.2.1 (hd.d rfl) rfl (h lsA H locs hl hP hS)
theorem so_i2c (B : pm_B p s m args meth c D ck n0 C cc nL own Ts G) {pc tg : Nat} {ls : pL} {st : List Value} {uc us : Nat} {S : pS}  (hd : pm_okI cc pc (.i2c) tg) (h : pm_i st (fun x r => pm_X p l e R s m args below meth c D n0 sa ck nL mc ms al Q (pc + 1) ls (.int (x.toUInt32 % 65536).toInt32 :: r) uc us S)) : pm_X p l e R s m args below meth c D n0 sa ck nL mc ms al Q pc ls st uc us S := by
  intro lsA H locs hl hP hS
  obtain ⟨x, r, rfl, h⟩ := pm_i_e h
  exact lv_i2c B.1 B.2.1 (hd.d rfl) rfl (h lsA H locs hl hP hS)
theorem so_dup (B : pm_B p s m args meth c D ck n0 C cc nL own Ts G) {pc tg : Nat} {ls : pL} {st : List Value} {uc us : Nat} {S : pS}  (hd : pm_okI cc pc (.dup) tg) (h : pm_dup st (fun v r => pm_X p l e R s m args below meth c D n0 sa ck nL mc ms al Q (pc + 1) ls (v :: v :: r) uc us S)) : pm_X p l e R s m args below meth c D n0 sa ck nL mc ms al Q pc ls st uc us S := by
  intro lsA H locs hl hP hS
  obtain ⟨v, r, rfl, hv, h⟩ := pm_dup_e h
  exact lv_dup B.1 B.2.1 (hd.d rfl) ((pm_v_cat n0 sa v).trans hv) (h lsA H locs hl hP hS)
theorem so_pop (B : pm_B p s m args meth c D ck n0 C cc nL own Ts G) {pc tg : Nat} {ls : pL} {st : List Value} {uc us : Nat} {S : pS}  (hd : pm_okI cc pc (.pop) tg) (h : pm_dup st (fun _ r => pm_X p l e R s m args below meth c D n0 sa ck nL mc ms al Q (pc + 1) ls r uc us S)) : pm_X p l e R s m args below meth c D n0 sa ck nL mc ms al Q pc ls st uc us S := by
  intro lsA H locs hl hP hS
  obtain ⟨v, r, rfl, hv, h⟩ := pm_dup_e h
  exact lv_pop B.1 B.2.1 (hd.d rfl) ((pm_v_cat n0 sa v).trans hv) (h lsA H locs hl hP hS)
theorem so_dup2 (B : pm_B p s m args meth c D ck n0 C cc nL own Ts G) {pc tg : Nat} {ls : pL} {st : List Value} {uc us : Nat} {S : pS}  (hd : pm_okI cc pc (.dup2) tg) (h : pm_dup2 st (fun v w r => pm_X p l e R s m args below meth c D n0 sa ck nL mc ms al Q (pc + 1) ls (v :: w :: v :: w :: r) uc us S)) : pm_X p l e R s m args below meth c D n0 sa ck nL mc ms al Q pc ls st uc us S := by
  intro lsA H locs hl hP hS
  obtain ⟨v, w, r, rfl, hv, hw, h⟩ := pm_dup2_e h
  exact lv_dup2_11 B.1 B.2.1 (hd.d rfl) ((pm_v_cat n0 sa v).trans hv) ((pm_v_cat n0 sa w).trans hw) (h lsA H locs hl hP hS)
theorem so_goto (B : pm_B p s m args meth c D ck n0 C cc nL own Ts G) {pc tg : Nat} {ls : pL} {st : List Value} {uc us : Nat} {S : pS} {o : Int} (hd : pm_okI cc pc (.goto o) tg) (h : pm_X p l e R s m args below meth c D n0 sa ck nL mc ms al Q tg ls st uc us S) : pm_X p l e R s m args below meth c D n0 sa ck nL mc ms al Q pc ls st uc us S := by
  intro lsA H locs hl hP hS
  exact lv_goto (tgt := tg) B.1 B.2.1 (hd.d rfl) (hd.2 _ rfl) (h lsA H locs hl hP hS)
theorem so_ifCond (B : pm_B p s m args meth c D ck n0 C cc nL own Ts G) {pc tg : Nat} {ls : pL} {st : List Value} {uc us : Nat} {S : pS} {o : Int} {cd : Jvm.ClassFile.Cond} (hd : pm_okI cc pc (.ifCond cd o) tg) (h : pm_i st (fun x r => pm_cd cd x 0 (pm_X p l e R s m args below meth c D n0 sa ck nL mc ms al Q tg ls r uc us S) (pm_X p l e R s m args below meth c D n0 sa ck nL mc ms al Q (pc + 3) ls r uc us S))) : pm_X p l e R s m args below meth c D n0 sa ck nL mc ms al Q pc ls st uc us S := by
  intro lsA H locs hl hP hS
  obtain ⟨x, r, rfl, h⟩ := pm_i_e h
  cases cd with
  | eq => exact lv_if_eq (tgt := tg) B.1 B.2.1 (hd.d rfl) (hd.2 _ rfl) (fun q => h.1 q lsA H locs hl hP hS) (fun q => h.2 q lsA H locs hl hP hS)
  | ne => exact lv_if_ne (tgt := tg) B.1 B.2.1 (hd.d rfl) (hd.2 _ rfl) (fun q => h.1 q lsA H locs hl hP hS) (fun q => h.2 q lsA H locs hl hP hS)
  | lt => exact lv_if_lt (tgt := tg) B.1 B.2.1 (hd.d rfl) (hd.2 _ rfl) (fun q => h.1 q lsA H locs hl hP hS) (fun q => h.2 q lsA H locs hl hP hS)
  | ge => exact lv_if_ge (tgt := tg) B.1 B.2.1 (hd.d rfl) (hd.2 _ rfl) (fun q => h.1 q lsA H locs hl hP hS) (fun q => h.2 q lsA H locs hl hP hS)
  | gt => exact lv_if_gt (tgt := tg) B.1 B.2.1 (hd.d rfl) (hd.2 _ rfl) (fun q => h.1 q lsA H locs hl hP hS) (fun q => h.2 q lsA H locs hl hP hS)
  | le => exact lv_if_le (tgt := tg) B.1 B.2.1 (hd.d rfl) (hd.2 _ rfl) (fun q => h.1 q lsA H locs hl hP hS) (fun q => h.2 q lsA H locs hl hP hS)
theorem so_if_icmp (B : pm_B p s m args meth c D ck n0 C cc nL own Ts G) {pc tg : Nat} {ls : pL} {st : List Value} {uc us : Nat} {S : pS} {o : Int} {cd : Jvm.ClassFile.Cond} (hd : pm_okI cc pc (.if_icmp cd o) tg) (h : pm_ii st (fun x y r => pm_cd cd x y (pm_X p l e R s m args below meth c D n0 sa ck nL mc ms al Q tg ls r uc us S) (pm_X p l e R s m args below meth c D n0 sa ck nL mc ms al Q (pc + 3) ls r uc us S))) : pm_X p l e R s m args below meth c D n0 sa ck nL mc ms al Q pc ls st uc us S := by
  intro lsA H locs hl hP hS
  obtain ⟨x, y, r, rfl, h⟩ := pm_ii_e h
  cases cd with
  | eq => exact lv_icmp_eq (tgt := tg) B.1 B.2.1 (hd.d rfl) (hd.2 _ rfl) (fun q => h.1 q lsA H locs hl hP hS) (fun q => h.2 q lsA H locs hl hP hS)
  | ne => exact lv_icmp_ne (tgt := tg) B.1 B.2.1 (hd.d rfl) (hd.2 _ rfl) (fun q => h.1 q lsA H locs hl hP hS) (fun q => h.2 q lsA H locs hl hP hS)
  | lt => exact lv_icmp_lt (tgt := tg) B.1 B.2.1 (hd.d rfl) (hd.2 _ rfl) (fun q => h.1 q lsA H locs hl hP hS) (fun q => h.2 q lsA H locs hl hP hS)
  | ge => exact lv_icmp_ge (tgt := tg) B.1 B.2.1 (hd.d rfl) (hd.2 _ rfl) (fun q => h.1 q lsA H locs hl hP hS) (fun q => h.2 q lsA H locs hl hP hS)
  | gt => exact lv_icmp_gt (tgt := tg) B.1 B.2.1 (hd.d rfl) (hd.2 _ rfl) (fun q => h.1 q lsA H locs hl hP hS) (fun q => h.2 q lsA H locs hl hP hS)
  | le => exact lv_icmp_le (tgt := tg) B.1 B.2.1 (hd.d rfl) (hd.2 _ rfl) (fun q => h.1 q lsA H locs hl hP hS) (fun q => h.2 q lsA H locs hl hP hS)
theorem so_tableswitch (B : pm_B p s m args meth c D ck n0 C cc nL own Ts G) {pc tg : Nat} {ls : pL} {st : List Value} {uc us : Nat} {S : pS} {df lo hi : Int} {os : Array Int} (hd : pm_okI cc pc (.tableswitch df lo hi os) tg) (h : pm_i st (fun x r => pm_sw x.toInt lo hi pc df os (fun t => pm_X p l e R s m args below meth c D n0 sa ck nL mc ms al Q t ls r uc us S))) : pm_X p l e R s m args below meth c D n0 sa ck nL mc ms al Q pc ls st uc us S := by
  intro lsA H locs hl hP hS
  obtain ⟨x, r, rfl, h2⟩ := pm_i_e h
  clear h
  have h := h2
  clear h2
  obtain ⟨⟨len, hd, -⟩, -⟩ := hd
  unfold pm_sw at h
  split at h
  · exact lv_tableOut (tgt := ((pc : Int) + df).toNat) B.1 B.2.1 hd ‹_› (by omega) (h.2 lsA H locs hl hP hS)
  · rename_i hn
    obtain ⟨o, ho, h0, h⟩ := pm_o_e h
    exact lv_tableIn (tgt := ((pc : Int) + o).toNat) B.1 B.2.1 hd (fun q => hn (Or.inl q)) (fun q => hn (Or.inr q)) ho (by omega) (h lsA H locs hl hP hS)
theorem so_caload (B : pm_B p s m args meth c D ck n0 C cc nL own Ts G) {pc tg : Nat} {ls : pL} {st : List Value} {uc us : Nat} {S : pS}  (hd : pm_okI cc pc (.caload) tg) (h : pm_ir st (fun i a r => pm_ar S a 2 (fun n f => pm_ix i n (pm_X p l e R s m args below meth c D n0 sa ck nL mc ms al Q (pc + 1) ls (.int (f i.toNatClampNeg) :: r) uc us S)))) : pm_X p l e R s m args below meth c D n0 sa ck nL mc ms al Q pc ls st uc us S := by
  intro lsA H locs hl hP hS
  obtain ⟨i, a, r, rfl, h⟩ := pm_ir_e h
  obtain ⟨ha, n, f, hf, hi, h⟩ := pm_ar_e h
  obtain ⟨hx, hb, hml, hown, hts, hr, hlocks, hex, hini, hK, hn0, hG⟩ := B
  exact va_cald (cA := ck 2) (n := n) (f := f) hx hb hK hP a 2 (by rw [pm_w_get ha, hf]; rfl) rfl hi (hd.d rfl) (h lsA H locs hl hP hS)
theorem so_baload (B : pm_B p s m args meth c D ck n0 C cc nL own Ts G) {pc tg : Nat} {ls : pL} {st : List Value} {uc us : Nat} {S : pS}  (hd : pm_okI cc pc (.baload) tg) (h : pm_ir st (fun i a r => pm_ar S a 3 (fun n f => pm_ix i n (pm_X p l e R s m args below meth c D n0 sa ck nL mc ms al Q (pc + 1) ls (.int (f i.toNatClampNeg) :: r) uc us S)))) : pm_X p l e R s m args below meth c D n0 sa ck nL mc ms al Q pc ls st uc us S := by
  intro lsA H locs hl hP hS
  obtain ⟨i, a, r, rfl, h⟩ := pm_ir_e h
  obtain ⟨ha, n, f, hf, hi, h⟩ := pm_ar_e h
  obtain ⟨hx, hb, hml, hown, hts, hr, hlocks, hex, hini, hK, hn0, hG⟩ := B
  exact va_zald (cA := ck 3) (n := n) (f := f) hx hb hK hP a 3 (by rw [pm_w_get ha, hf]; rfl) rfl hi (hd.d rfl) (h lsA H locs hl hP hS)
theorem so_laload (B : pm_B p s m args meth c D ck n0 C cc nL own Ts G) {pc tg : Nat} {ls : pL} {st : List Value} {uc us : Nat} {S : pS}  (hd : pm_okI cc pc (.laload) tg) (h : pm_ir st (fun i a r => pm_aj S a (fun n f => pm_ix i n (pm_X p l e R s m args below meth c D n0 sa ck nL mc ms al Q (pc + 1) ls (.long (f i.toNatClampNeg) :: r) uc us S)))) : pm_X p l e R s m args below meth c D n0 sa ck nL mc ms al Q pc ls st uc us S := by
  intro lsA H locs hl hP hS
  obtain ⟨i, a, r, rfl, h⟩ := pm_ir_e h
  obtain ⟨ha, n, f, hf, hi, h⟩ := pm_aj_e h
  obtain ⟨hx, hb, hml, hown, hts, hr, hlocks, hex, hini, hK, hn0, hG⟩ := B
  exact va_lald (cA := ck 1) (n := n) (f := f) hx hb hK hP a 1 (by rw [pm_w_get ha, hf]; rfl) rfl hi (hd.d rfl) (h lsA H locs hl hP hS)
theorem so_castore (B : pm_B p s m args meth c D ck n0 C cc nL own Ts G) {pc tg : Nat} {ls : pL} {st : List Value} {uc us : Nat} {S : pS}  (hd : pm_okI cc pc (.castore) tg) (h : pm_iir st (fun x i a r => pm_ar S a 2 (fun n f => pm_ix i n (pm_X p l e R s m args below meth c D n0 sa ck nL mc ms al Q (pc + 1) ls r uc us (pm_up S a (.inl (2, n, .inl (upd f i.toNatClampNeg (vp_nar .char x))))))))) : pm_X p l e R s m args below meth c D n0 sa ck nL mc ms al Q pc ls st uc us S := by
  intro lsA H locs hl hP hS
  obtain ⟨x, i, a, r, rfl, h⟩ := pm_iir_e h
  obtain ⟨ha, n, f, hf, hi, h⟩ := pm_ar_e h
  obtain ⟨hx, hb, hml, hown, hts, hr, hlocks, hex, hini, hK, hn0, hG⟩ := B
  refine va_cast (cA := ck 2) (n := n) (f := f) hx hb hK hP pm_w_D hS a 2 (by rw [pm_w_get ha, hf]; rfl) rfl hi (hd.d rfl) (fun H1 locs1 hP1 _ hS1 => ?_)
  exact h lsA H1 locs1 hl ((pm_w_set (n0 := n0) (sa := sa) (ck := ck) (S := S) (i := a) (.inl (2, n, .inl (upd f i.toNatClampNeg (vp_nar .char x))))) ▸ hP1) hS1
theorem so_bastore (B : pm_B p s m args meth c D ck n0 C cc nL own Ts G) {pc tg : Nat} {ls : pL} {st : List Value} {uc us : Nat} {S : pS}  (hd : pm_okI cc pc (.bastore) tg) (h : pm_iir st (fun x i a r => pm_ar S a 3 (fun n f => pm_ix i n (pm_X p l e R s m args below meth c D n0 sa ck nL mc ms al Q (pc + 1) ls r uc us (pm_up S a (.inl (3, n, .inl (upd f i.toNatClampNeg (vp_nar .boolean x))))))))) : pm_X p l e R s m args below meth c D n0 sa ck nL mc ms al Q pc ls st uc us S := by
  intro lsA H locs hl hP hS
  obtain ⟨x, i, a, r, rfl, h⟩ := pm_iir_e h
  obtain ⟨ha, n, f, hf, hi, h⟩ := pm_ar_e h
  obtain ⟨hx, hb, hml, hown, hts, hr, hlocks, hex, hini, hK, hn0, hG⟩ := B
  refine va_zast (cA := ck 3) (n := n) (f := f) hx hb hK hP pm_w_D hS a 3 (by rw [pm_w_get ha, hf]; rfl) rfl hi (hd.d rfl) (fun H1 locs1 hP1 _ hS1 => ?_)
  exact h lsA H1 locs1 hl ((pm_w_set (n0 := n0) (sa := sa) (ck := ck) (S := S) (i := a) (.inl (3, n, .inl (upd f i.toNatClampNeg (vp_nar .boolean x))))) ▸ hP1) hS1
theorem so_lastore (B : pm_B p s m args meth c D ck n0 C cc nL own Ts G) {pc tg : Nat} {ls : pL} {st : List Value} {uc us : Nat} {S : pS}  (hd : pm_okI cc pc (.lastore) tg) (h : pm_lir st (fun x i a r => pm_aj S a (fun n f => pm_ix i n (pm_X p l e R s m args below meth c D n0 sa ck nL mc ms al Q (pc + 1) ls r uc us (pm_up S a (.inl (1, n, .inr (vp_updL f i.toNatClampNeg x)))))))) : pm_X p l e R s m args below meth c D n0 sa ck nL mc ms al Q pc ls st uc us S := by
  intro lsA H locs hl hP hS
  obtain ⟨x, i, a, r, rfl, h⟩ := pm_lir_e h
  obtain ⟨ha, n, f, hf, hi, h⟩ := pm_aj_e h
  obtain ⟨hx, hb, hml, hown, hts, hr, hlocks, hex, hini, hK, hn0, hG⟩ := B
  refine va_last (cA := ck 1) (n := n) (f := f) hx hb hK hP pm_w_D hS a 1 (by rw [pm_w_get ha, hf]; rfl) rfl hi (hd.d rfl) (fun H1 locs1 hP1 _ hS1 => ?_)
  exact h lsA H1 locs1 hl ((pm_w_set (n0 := n0) (sa := sa) (ck := ck) (S := S) (i := a) (.inl (1, n, .inr (vp_updL f i.toNatClampNeg x)))) ▸ hP1) hS1
theorem so_arraylength (B : pm_B p s m args meth c D ck n0 C cc nL own Ts G) {pc tg : Nat} {ls : pL} {st : List Value} {uc us : Nat} {S : pS}  (hd : pm_okI cc pc (.arraylength) tg) (h : pm_r st (fun a r => pm_an S a (fun n => pm_X p l e R s m args below meth c D n0 sa ck nL mc ms al Q (pc + 1) ls (.int (Int32.ofNat n) :: r) uc us S))) : pm_X p l e R s m args below meth c D n0 sa ck nL mc ms al Q pc ls st uc us S := by
  intro lsA H locs hl hP hS
  obtain ⟨a, r, rfl, h⟩ := pm_r_e h
  obtain ⟨ha, n, hf, h⟩ := pm_an_e h
  obtain ⟨hx, hb, hml, hown, hts, hr, hlocks, hex, hini, hK, hn0, hG⟩ := B
  rcases hf with ⟨k, f, hf, hk⟩ | ⟨f, hf⟩
  · rcases (by omega : k = 0 ∨ k = 1 ∨ k = 2 ∨ k = 3) with rfl | rfl | rfl | rfl
    · exact va_alen (cA := ck 0) (x := (n, .inl f)) hx hb hK hP a 0 (by rw [pm_w_get ha, hf]; rfl) rfl rfl (hd.d rfl) (h lsA H locs hl hP hS)
    · exact va_alen (cA := ck 1) (x := (n, .inl f)) hx hb hK hP a 1 (by rw [pm_w_get ha, hf]; rfl) rfl rfl (hd.d rfl) (h lsA H locs hl hP hS)
    · exact va_alen (cA := ck 2) (x := (n, .inl f)) hx hb hK hP a 2 (by rw [pm_w_get ha, hf]; rfl) rfl rfl (hd.d rfl) (h lsA H locs hl hP hS)
    · exact va_alen (cA := ck 3) (x := (n, .inl f)) hx hb hK hP a 3 (by rw [pm_w_get ha, hf]; rfl) rfl rfl (hd.d rfl) (h lsA H locs hl hP hS)
  · exact va_alen (cA := ck 1) (x := (n, .inr (.inl f))) hx hb hK hP a 1 (by rw [pm_w_get ha, hf]; rfl) rfl rfl (hd.d rfl) (h lsA H locs hl hP hS)
theorem so_lreturn (B : pm_B p s m args meth c D ck n0 C cc nL own Ts G) {pc tg : Nat} {ls : pL} {st : List Value} {uc us : Nat} {S : pS} (hu : uc ≤ mc ∧ us ≤ ms) (hd : pm_okI cc pc .lreturn tg) (h : pm_l st (fun x r => r = [] ∧ pc_rt C = some .long ∧ (al = false → uc = 0 ∧ us = 0) ∧ Q (.inl (some (.long x))) S)) : pm_X p l e R s m args below meth c D n0 sa ck nL mc ms al Q pc ls st uc us S := by
  intro lsA H locs hl hP hS
  obtain ⟨x, r, rfl, h0, h1, ha, h2⟩ := pm_l_e h
  subst h0
  clear h
  have h := h2
  obtain ⟨hx, hb, hml, hown, hts, hr, hlocks, hex, hini, hK, hn0, hG⟩ := B
  refine pm_ends (al := al) ha (fun hsm => ?_)
  refine W.widen (k := mc) (n := ms) hu.1 hu.2 (vx_ret ?_)
  exact W.lret (v := x) hx hb (hr.trans h1) (fun t ht hW => ⟨fun q => hsm q t ht, ⟨some (.long x), S, rfl, h, by rw [ht]; exact hP⟩, hS.F ht⟩) hS.2.2 (hd.d rfl) hlocks
theorem so_return (B : pm_B p s m args meth c D ck n0 C cc nL own Ts G) {pc tg : Nat} {ls : pL} {st : List Value} {uc us : Nat} {S : pS} (hu : uc ≤ mc ∧ us ≤ ms) (hd : pm_okI cc pc .return_ tg) (h : st = [] ∧ pc_rt C = none ∧ (al = false → uc = 0 ∧ us = 0) ∧ Q (.inl none) S) : pm_X p l e R s m args below meth c D n0 sa ck nL mc ms al Q pc ls st uc us S := by
  intro lsA H locs hl hP hS
  obtain ⟨rfl, h1, ha, h⟩ := h
  obtain ⟨hx, hb, hml, hown, hts, hr, hlocks, hex, hini, hK, hn0, hG⟩ := B
  refine pm_ends (al := al) ha (fun hsm => ?_)
  refine W.widen (k := mc) (n := ms) hu.1 hu.2 (vx_ret ?_)
  exact W.vret hx hb (hr.trans h1) (fun t ht hW => ⟨fun q => hsm q t ht, ⟨none, S, rfl, h, by rw [ht]; exact hP⟩, hS.F ht⟩) hS.2.2 (hd.d rfl) hlocks
end PMT
end
section
def pm_R (d mc ms : Nat) : Room := { frames := d, cells := mc, slots := ms, locals := 40 * d }
def pm_Pc (D : va_G) (n0 : Nat) (sa : Nat → Nat) (ck : Nat → ClassId) (G : State → Prop) (as : List Value) (S : pS) (al : Bool) : Array Value → State → Prop := va_Pc (as.map (pm_v n0 sa)) (fun U => n0 ≤ U.heap.size ∧ (al = true → U.heap.size ≤ n0 + S.1) ∧ va_P D vwCl (pm_w n0 sa ck S) U.heap ∧ va_K D vwCl (pm_tys ck) U ∧ G U)
/-- methods by their numbers: name, code, locals, the answer's type -/
abbrev pY : Type := Nat → MethodName × ByteArray × Nat × Option FieldType
def pm_ws (Y : pY) (TW : List Cond) (j : Nat) : List Cond := Cond.code (Y j).1 (Y j).2.1 (Y j).2.2.1 (Y j).2.2.2 :: TW
def pm_Met (l : Launch) (D : va_G) (n0 : Nat) (sa : Nat → Nat) (ck : Nat → ClassId) (G : State → Prop) (TW : List Cond) (Y : pY) (cost : Nat → Nat × Nat × Bool) (d j : Nat) (as : List Value) (S : pS) (Q : pQ) : Prop :=
  vx_Met l (Y j).1 (pm_ws Y TW j) (pm_R d (cost j).1 (cost j).2.1) (pm_Pc D n0 sa ck G as S (cost j).2.2) (pm_Qc D n0 sa ck (cost j).2.2 Q) (pm_XC D n0 sa ck Q) (cost j).1 (cost j).2.1 (fun q => n0 ≤ q)
/-- the ground stays -/
def pm_Gm (n0 : Nat) (G : State → Prop) : Prop := ∀ u U : State, u.WarmedH U.vm → (∀ q, q < u.heap.size → ¬ n0 ≤ q → U.heap[q]? = u.heap[q]?) → G u → G U
def pm_TW (TW Ts : List Cond) : Prop := (∀ w ∈ TW, w ∈ Ts) ∧ ∀ w ∈ TW, (w.onTables && w.keeps) = true ∨ ∃ ty, w = .arrayClass ty
/-- what a method's name must be, and its number of arguments -/
def pm_okY (Y : pY) (TW : List Cond) (j n : Nat) : Prop := Cond.code (Y j).1 (Y j).2.1 (Y j).2.2.1 (Y j).2.2.2 ∈ TW ∧ (Y j).2.2.1 ≤ 21 ∧ (Y j).1.cls ≠ "java/lang/invoke/MethodHandle" ∧ (Y j).1.cls ≠ "java/lang/invoke/VarHandle" ∧ (parseMethodDescriptor (Y j).1.desc).map (fun d => d.parameters.length) = some n ∧ Cond.initialized (Y j).1.cls ∈ TW
section PMC
variable {p : Program} {l : Launch} {e : Env} {R : Room} {s : State} {m : MethodId} {args : Array Value} {below : List Frame} {meth : Method} {c : Code} {D : va_G} {n0 : Nat} {sa : Nat → Nat} {ck : Nat → ClassId} {nL mc ms : Nat} {al : Bool} {Q : pQ} {C : pC} {cc : ByteArray} {own : String} {Ts TW : List Cond} {G : State → Prop} {Y : pY} {cost : Nat → Nat × Nat × Bool}
theorem pm_size {H : Heap} {locs : List Loc} {cells slots : Nat} {Qf : State → Prop} {g : JFrame} (k : H.size ≤ s.heap.size + cells → W p l e R s m args below meth c H locs cells slots Qf g) : W p l e R s m args below meth c H locs cells slots Qf g := fun T hT X => k (by rw [← hT]; exact X.heapSize) T hT X
theorem pm_Pc_blind (hGm : pm_Gm n0 G) {as : List Value} {S : pS} {al : Bool} : FrameBlind (pm_Pc D n0 sa ck G as S al) := by
  rintro a U g mk ⟨h0, h1, h2, h3, h4, h5⟩
  exact ⟨h0, h1, h2, h3, va_K.moved (u := U) (U := U.calling g mk a) (Vm.Alike.refl U.vm) h4, hGm U (U.calling g mk a) (State.WarmedH.refl U) (fun _ _ _ => rfl) h5⟩
theorem pm_Pc_at (hGm : pm_Gm n0 G) (hn0 : n0 ≤ s.heap.size) (hK : va_K D vwCl (pm_tys ck) s) (hG : G s) {as : List Value} {S : pS} {al : Bool} {H : Heap} {locs : List Loc} (hP : va_P D vwCl (pm_w n0 sa ck S) H) (hS : va_S (fun q => n0 ≤ q) s.heap H locs) (hal : al = true → H.size ≤ n0 + S.1) : ∀ U : State, U.heap = H → s.WarmedH U.vm → pm_Pc D n0 sa ck G as S al (as.map (pm_v n0 sa)).toArray U := by
  intro U hU hW
  refine ⟨rfl, ?_, ?_, ?_, va_K.moved hW.alike hK, hGm s U hW (fun q h1 h2 => by rw [hU]; exact hS.2.1 q h1 h2) hG⟩
  · rw [hU]; exact Nat.le_trans hn0 hS.1
  · rw [hU]; exact hal
  · rw [hU]; exact hP
theorem pm_narrow {T T' : State} {locs L : List Loc} {cells slots mc' ms' : Nat} (X : Stand p l e R s m args below meth c T locs cells slots) (X' : Stand p l e R s m args below meth c T' (locs ++ L) (cells + mc') (slots + ms')) (h : pm_same T T') : Stand p l e R s m args below meth c T' (locs ++ L) cells slots := by
  obtain ⟨h1, h2⟩ := h
  have hlen : T'.heap.size ≤ s.heap.size + cells := by rw [h1]; exact X.heapSize
  have e5 : (T'.heap.toList.drop s.heap.size).map (·.slots.size) = (T.heap.toList.drop s.heap.size).map (·.slots.size) := by
    apply List.ext_getElem?
    intro i
    rw [List.getElem?_map, List.getElem?_map, List.getElem?_drop, List.getElem?_drop, Array.getElem?_toList, Array.getElem?_toList]
    cases hc : T.heap[s.heap.size + i]? with
    | none =>
      have hge : T.heap.size ≤ s.heap.size + i := Array.getElem?_eq_none_iff.mp hc
      rw [Array.getElem?_eq_none_iff.mpr (show T'.heap.size ≤ s.heap.size + i by rw [h1]; exact hge)]
    | some c0 =>
      obtain ⟨c', e1, e2⟩ := h2 _ _ hc
      rw [e1]
      simp [e2]
  have s5 : ((T'.heap.toList.drop s.heap.size).map (·.slots.size)).sum ≤ slots := by rw [e5]; exact X.same.2.2.2.2.1
  exact { X' with same := ⟨X'.same.1, X'.same.2.1, hlen, X'.same.2.2.2.1, s5, X'.same.2.2.2.2.2⟩ }
theorem pm_back {H : Heap} {locs : List Loc} {uc us mc' ms' pc : Nat} {al' : Bool} {lsA : Array Slot} {st0 rest : List Value} {a : Array Value} {Qf : State → Prop} {Q1 : pQ} (hr : vx_Run p l e R s m args below meth c H locs uc us mc' ms' (F0 m pc lsA st0) rest (pm_Qc D n0 sa ck al' Q1 a) (pm_XC D n0 sa ck Q1) (fun q => n0 ≤ q)) (hS : va_S (fun q => n0 ≤ q) s.heap H locs)
    (kk : ∀ (v : Option Value) (S1 : pS) (H1 : Heap) (locs1 : List Loc), Q1 (.inl v) S1 → va_P D vwCl (pm_w n0 sa ck S1) H1 → va_S (fun q => n0 ≤ q) s.heap H1 locs1 → W p l e R s m args below meth c H1 locs1 (pm_nu al' uc mc') (pm_nu al' us ms') Qf (F0 m (pc + 3) lsA ((v.map (pm_v n0 sa)).toList ++ rest)))
    (kx : ∀ (E : String) (S1 : pS) (H1 : Heap) (locs1 : List Loc) (q : Addr) (ce : Cell), Q1 (.inr E) S1 → va_P D vwCl (pm_w n0 sa ck S1) H1 → va_S (fun q => n0 ≤ q) s.heap H1 locs1 → H1[q]? = some ce → ce.vm = .none → s.vm.findClass E = some ce.cls → vx_W p l e R s m args below meth c H1 locs1 (uc + mc') (us + ms') Qf (F0 m pc lsA rest) q) : W p l e R s m args below meth c H locs uc us Qf (F0 m pc lsA st0) := by
  intro T hT X
  rcases hr T hT X with ⟨v, st₀, t, T', L, h0, X', hL, e1, e2, ⟨hsm, ⟨w, S1, hv, hq, hp⟩, hF⟩, st⟩ | ⟨q, st₀, t, T', L, E, ce, h0, X', hL, e1, e2, ⟨⟨S1, hq, hp⟩, hF⟩, hce, hcv, hcl, st⟩
  · cases hv
    obtain ⟨k1, k2, k3⟩ := vx_keep (A0 := fun q => n0 ≤ q) h0 e1 hS (fun q _ h => h) (fun q h => h) hL hF
    have X2 : Stand p l e R s m args below meth c T' (locs ++ L) (pm_nu al' uc mc') (pm_nu al' us ms') := by
      cases al' with
      | true => exact X'
      | false =>
        obtain ⟨g1, g2⟩ := hsm rfl
        refine pm_narrow X X' ⟨by rw [e1, g1, h0, hT], fun a c0 hc => ?_⟩
        obtain ⟨c', z1, z2⟩ := g2 a c0 (by rw [h0, ← hT]; exact hc)
        exact ⟨c', by rw [e1]; exact z1, z2⟩
    obtain ⟨t2, a1, b1⟩ := kk w S1 T'.heap (locs ++ L) hq (by rw [e1]; exact hp) k3 T' rfl X2
    exact ⟨t2, st t2 a1, b1⟩
  · obtain ⟨k1, k2, k3⟩ := vx_keep (A0 := fun q => n0 ≤ q) h0 e1 hS (fun q _ h => h) (fun q h => h) hL hF
    obtain ⟨t2, a1, b1⟩ := kx E S1 T'.heap (locs ++ L) q ce hq (by rw [e1]; exact hp) k3 (by rw [e1]; exact hce) hcv hcl T' rfl X'
    exact ⟨t2, st.trans a1, b1⟩
theorem pm_good (hT : pm_TW TW Ts) {j n : Nat} (hY : pm_okY Y TW j n) : GoodIn Ts (pm_ws Y TW j) := by
  intro w hw
  rcases List.mem_cons.mp hw with rfl | h
  · exact ⟨hT.1 _ hY.1, hT.2 _ hY.1⟩
  · exact ⟨hT.1 _ h, hT.2 _ h⟩
theorem pm_cb {d : Nat} (B : pm_B p s m args meth c D ck n0 C cc nL own Ts G) (hT : pm_TW TW Ts) {j n : Nat} (hY : pm_okY Y TW j n) {i : Nat} (hl : Cond.methodLink own i (Y j).1 ∈ TW) : CallB (pm_R (d + 1) mc ms) s args own i (Y j).1 (Y j).2.1 (Y j).2.2.1 (Y j).2.2.2 (pm_ws Y TW j) (pm_R d (cost j).1 (cost j).2.1) (cost j).1 (cost j).2.1 n :=
  callB_of n B.2.2.2.2.1 (pm_good hT hY) rfl rfl rfl (B.2.2.2.2.1 _ (hT.1 _ hY.2.2.2.2.2)) (B.2.2.2.2.1 _ (hT.1 _ hl)) ⟨hY.2.2.1, hY.2.2.2.1, hY.2.2.2.2.1⟩ ⟨Nat.le_refl _, by have := hY.2.1; show 8 + ((Y j).2.2.1 + 11) + 40 * d ≤ 40 * (d + 1); omega⟩
theorem pm_rest4 {r : List Value} (h : r.length ≤ 4) : ((r.map (pm_v n0 sa)).map fun v => v.category).sum ≤ 8 := by
  have hc : ∀ v : Value, v.category ≤ 2 := fun v => by cases v <;> simp [Value.category]
  match r, h with
  | [], _ => simp
  | [a], _ => have := hc (pm_v n0 sa a); simp; omega
  | [a, b], _ => have := hc (pm_v n0 sa a); have := hc (pm_v n0 sa b); simp; omega
  | [a, b, c], _ => have := hc (pm_v n0 sa a); have := hc (pm_v n0 sa b); have := hc (pm_v n0 sa c); simp; omega
  | [a, b, c, d], _ => have := hc (pm_v n0 sa a); have := hc (pm_v n0 sa b); have := hc (pm_v n0 sa c); have := hc (pm_v n0 sa d); simp; omega
theorem pm_nu_le {b : Bool} {u x y : Nat} (h : u + x ≤ y) : pm_nu b u x ≤ y := by
  cases b
  · exact Nat.le_trans (Nat.le_add_right u x) h
  · exact h
/-- behind a call that the pure machine has made -/
theorem pm_aft {R : Room} (B : pm_B p s m args meth c D ck n0 C cc nL own Ts G) {pc : Nat} {ls : pL} {j : Nat} {r : List Value} {uc us : Nat} {lsA : Array Slot} {H : Heap} {locs : List Loc} {st0 : List Value} {a : Array Value} {X : pF} {Q1 : pQ} (hq1 : ∀ v S1, Q1 (.inl v) S1 → X (pc + 3) ls (v.toList ++ r) (pm_nu (cost j).2.2 uc (cost j).1) (pm_nu (cost j).2.2 us (cost j).2.1) S1) (hq2 : ∀ E S1, Q1 (.inr E) S1 → Q (.inr E) S1) (hX : ∀ pc ls st uc us S, uc ≤ mc ∧ us ≤ ms → X pc ls st uc us S → pm_X p l e R s m args below meth c D n0 sa ck nL mc ms al Q pc ls st uc us S) (hl : pm_lr n0 sa lsA nL ls) (hS : va_S (fun q => n0 ≤ q) s.heap H locs) (hu : uc + (cost j).1 ≤ mc) (hv : us + (cost j).2.1 ≤ ms)
    (hr : vx_Run p l e R s m args below meth c H locs uc us (cost j).1 (cost j).2.1 (F0 m pc lsA st0) (r.map (pm_v n0 sa)) (pm_Qc D n0 sa ck (cost j).2.2 Q1 a) (pm_XC D n0 sa ck Q1) (fun q => n0 ≤ q)) : W p l e R s m args below meth c H locs uc us (vx_MQ below (pm_Qc D n0 sa ck al Q) (pm_XC D n0 sa ck Q) args s mc ms (fun q => n0 ≤ q)) (F0 m pc lsA st0) := by
  obtain ⟨hx, hb, hml, hown, hts, hrt, hlocks, hex, hini, hK, hn0, hG⟩ := B
  refine pm_back hr hS (fun v S1 H1 locs1 hq hP1 hS1 => ?_) (fun E S1 H1 locs1 q ce hq hP1 hS1 h1 h2 h3 => ?_)
  · have := hX _ _ _ _ _ _ ⟨pm_nu_le hu, pm_nu_le hv⟩ (hq1 v S1 hq) lsA H1 locs1 hl hP1 hS1
    cases v with
    | none => exact this
    | some v => exact this
  · exact vx_out (fun x hx => (hex x hx).elim) hlocks h1 h2 h3 (fun t ht _ => ⟨⟨S1, hq2 E S1 hq, by rw [ht]; exact hP1⟩, hS1.F ht⟩) hS1.2.2 hu hv
theorem so_static {d : Nat} (B : pm_B p s m args meth c D ck n0 C cc nL own Ts G) (hT : pm_TW TW Ts) (hGm : pm_Gm n0 G) {call : pCall} (hcall : ∀ j as S Q, call j as S Q → pm_Met l D n0 sa ck G TW Y cost d j as S Q) {al : Bool} {nxe : Nat} (hal : al = true → s.heap.size ≤ n0 + nxe) {X : pF} (hX : ∀ pc ls st uc us S, uc ≤ mc ∧ us ≤ ms → X pc ls st uc us S → pm_X p l e (pm_R (d + 1) mc ms) s m args below meth c D n0 sa ck nL mc ms al Q pc ls st uc us S)
    {pc tg : Nat} {ls : pL} {st : List Value} {uc us : Nat} {S : pS} {i j n : Nat} (hd : pm_okI cc pc (.invokestatic i) tg) (hY : pm_okY Y TW j n) (hlk : Cond.methodLink own i (Y j).1 ∈ TW) (hst : Cond.static (Y j).1 ∈ TW)
    (h : pm_ar1 st n (fun as r => pm_inv call cost al nxe mc ms Q X pc ls j as r uc us S)) : pm_X p l e (pm_R (d + 1) mc ms) s m args below meth c D n0 sa ck nL mc ms al Q pc ls st uc us S := by
  intro lsA H locs hl hP hS
  obtain ⟨hn, h4, h5, h6, h7, h8⟩ := h
  have B' := B
  obtain ⟨hx, hb, hml, hown, hts, hrt, hlocks, hex, hini, hK, hn0, hG⟩ := B
  refine pm_size (fun hz => ?_)
  refine pm_aft (Q1 := pm_po cost Q X pc ls j (st.drop n) uc us) (r := st.drop n) (a := ((st.take n).reverse.map (pm_v n0 sa)).toArray) B' (fun _ _ h => h) (fun _ _ h => h) hX hl hS h5 h6 ?_
  exact vx_runS (As := (st.take n).reverse.map (pm_v n0 sa)) (Ts := Ts) ⟨hx, hb, hml, hown, hts⟩ (hcall _ _ _ _ h8) ⟨pm_cb B' hT hY hlk, hts _ (hT.1 _ hst)⟩ ⟨pm_Pc_blind hGm, pm_Pc_at hGm hn0 hK hG hP hS (fun q => by obtain ⟨q1, q2⟩ := h7 q; have := hal q1; omega)⟩ rfl (by simp; omega) hl.2.1
    (by show st.map (pm_v n0 sa) = _; rw [← List.map_reverse, List.reverse_reverse, ← List.map_append, List.take_append_drop]) (by simpa [F0, JFrame.monitorRoom] using pm_rest4 h4) (hd.d rfl) ⟨h5, h6⟩
theorem so_virtual {d : Nat} (B : pm_B p s m args meth c D ck n0 C cc nL own Ts G) (hT : pm_TW TW Ts) (hGm : pm_Gm n0 G) {call : pCall} (hcall : ∀ j as S Q, call j as S Q → pm_Met l D n0 sa ck G TW Y cost d j as S Q) {al : Bool} {nxe : Nat} (hal : al = true → s.heap.size ≤ n0 + nxe) {X : pF} (hX : ∀ pc ls st uc us S, uc ≤ mc ∧ us ≤ ms → X pc ls st uc us S → pm_X p l e (pm_R (d + 1) mc ms) s m args below meth c D n0 sa ck nL mc ms al Q pc ls st uc us S)
    {pc tg : Nat} {ls : pL} {st : List Value} {uc us : Nat} {S : pS} {i j n ci : Nat} {T : u_T} {N : Nat} (hd : pm_okI cc pc (.invokevirtual i) tg) (hY : pm_okY Y TW j n) (hlk : Cond.methodLink own i (Y j).1 ∈ TW) (hin : Cond.instanceMethod (Y j).1 ∈ TW) (hse : Cond.selects (Y j).1.cls (Y j).1 (Y j).1 ∈ TW) (hci : vwCl[ci]? = some ((Y j).1.cls, T, N))
    (h : pm_ar1 st n (fun as r => pm_r r (fun b r => pm_ob S b ci (fun _ => True) ∧ pm_inv call cost al nxe mc ms Q X pc ls j (.ref b :: as) r uc us S))) : pm_X p l e (pm_R (d + 1) mc ms) s m args below meth c D n0 sa ck nL mc ms al Q pc ls st uc us S := by
  intro lsA H locs hl hP hS
  obtain ⟨hn, h⟩ := h
  obtain ⟨b, r, hr0, hob, h4, h5, h6, h7, h8⟩ := pm_r_e h
  clear h
  obtain ⟨hbl, fs, hfs, -⟩ := pm_ob_e hob
  have B' := B
  obtain ⟨hx, hb, hml, hown, hts, hrt, hlocks, hex, hini, hK, hn0, hG⟩ := B
  refine pm_size (fun hz => ?_)
  refine pm_aft (Q1 := pm_po cost Q X pc ls j r uc us) (r := r) (a := ((.ref b :: (st.take n).reverse).map (pm_v n0 sa)).toArray) B' (fun _ _ h => h) (fun _ _ h => h) hX hl hS h5 h6 ?_
  exact vx_runV (C := (Y j).1.cls) (b := n0 + b) (As := (st.take n).reverse.map (pm_v n0 sa)) (Ts := Ts) ⟨hx, hb, hml, hown, hts⟩ (hcall _ _ _ _ h8) ⟨pm_cb B' hT hY hlk, hts _ (hT.1 _ hin), hts _ (hT.1 _ hse)⟩ ⟨pm_Pc_blind hGm, va_recv hK hP (ci := ci) (q0 := b) (fs := fs.map (pm_v n0 sa)) hci (by rw [pm_w_get hbl, hfs]; rfl), pm_Pc_at hGm hn0 hK hG hP hS (fun q => by obtain ⟨q1, q2⟩ := h7 q; have := hal q1; omega)⟩ rfl (by simp; omega) hl.2.1
    (by show st.map (pm_v n0 sa) = _; rw [← List.map_reverse, List.reverse_reverse]; show _ = List.map (pm_v n0 sa) (st.take n) ++ List.map (pm_v n0 sa) (.ref b :: r); rw [← hr0, ← List.map_append, List.take_append_drop]) (by simpa [F0, JFrame.monitorRoom] using pm_rest4 h4) (hd.d rfl) ⟨h5, h6⟩
/-- a call on a text -/
theorem so_text {d : Nat} (B : pm_B p s m args meth c D ck n0 C cc nL own Ts G) (hT : pm_TW TW Ts) (hGm : pm_Gm n0 G) {call : pCall} (hcall : ∀ j as S Q, call j as S Q → pm_Met l D n0 sa ck G TW Y cost d j as S Q) {al : Bool} {nxe : Nat} (hal : al = true → s.heap.size ≤ n0 + nxe) {X : pF} (hX : ∀ pc ls st uc us S, uc ≤ mc ∧ us ≤ ms → X pc ls st uc us S → pm_X p l e (pm_R (d + 1) mc ms) s m args below meth c D n0 sa ck nL mc ms al Q pc ls st uc us S)
    {pc tg : Nat} {ls : pL} {st : List Value} {uc us : Nat} {S : pS} {i j n : Nat} (hd : pm_okI cc pc (.invokevirtual i) tg) (hY : pm_okY Y TW j n) (hlk : Cond.methodLink own i (Y j).1 ∈ TW) (hin : Cond.instanceMethod (Y j).1 ∈ TW) (hse : Cond.selects (Y j).1.cls (Y j).1 (Y j).1 ∈ TW)
    (hrc : ∀ b H locs, va_S (fun q => n0 ≤ q) s.heap H locs → ∃ cell : Cell, H[sa b]? = some cell ∧ cell.vm.isStatics = false ∧ s.vm.findClass (Y j).1.cls = some cell.cls)
    (h : pm_ar1 st n (fun as r => pm_t r (fun b r => pm_inv call cost al nxe mc ms Q X pc ls j (.retAddr b :: as) r uc us S))) : pm_X p l e (pm_R (d + 1) mc ms) s m args below meth c D n0 sa ck nL mc ms al Q pc ls st uc us S := by
  intro lsA H locs hl hP hS
  obtain ⟨hn, h⟩ := h
  obtain ⟨b, r, hr0, h4, h5, h6, h7, h8⟩ : ∃ b r, st.drop n = .retAddr b :: r ∧ pm_inv call cost al nxe mc ms Q X pc ls j (.retAddr b :: (st.take n).reverse) r uc us S := by
    unfold pm_t at h; split at h
    · exact ⟨_, _, ‹_›, h⟩
    · exact h.elim
  clear h
  have B' := B
  obtain ⟨hx, hb, hml, hown, hts, hrt, hlocks, hex, hini, hK, hn0, hG⟩ := B
  refine pm_size (fun hz => ?_)
  refine pm_aft (Q1 := pm_po cost Q X pc ls j r uc us) (r := r) (a := ((.retAddr b :: (st.take n).reverse).map (pm_v n0 sa)).toArray) B' (fun _ _ h => h) (fun _ _ h => h) hX hl hS h5 h6 ?_
  exact vx_runV (C := (Y j).1.cls) (b := sa b) (As := (st.take n).reverse.map (pm_v n0 sa)) (Ts := Ts) ⟨hx, hb, hml, hown, hts⟩ (hcall _ _ _ _ h8) ⟨pm_cb B' hT hY hlk, hts _ (hT.1 _ hin), hts _ (hT.1 _ hse)⟩ ⟨pm_Pc_blind hGm, hrc b H locs hS, pm_Pc_at hGm hn0 hK hG hP hS (fun q => by obtain ⟨q1, q2⟩ := h7 q; have := hal q1; omega)⟩ rfl (by simp; omega) hl.2.1
    (by show st.map (pm_v n0 sa) = _; rw [← List.map_reverse, List.reverse_reverse]; show _ = List.map (pm_v n0 sa) (st.take n) ++ List.map (pm_v n0 sa) (.retAddr b :: r); rw [← hr0, ← List.map_append, List.take_append_drop]) (by simpa [F0, JFrame.monitorRoom] using pm_rest4 h4) (hd.d rfl) ⟨h5, h6⟩
/-- a call that never throws, as the kit's other rows have it -/
theorem pm_calm {d j : Nat} {as : List Value} {S : pS} {Q1 : pQ} (h : pm_Met l D n0 sa ck G TW Y cost d j as S Q1) (hn : ∀ E S, ¬ Q1 (.inr E) S) : Met l (Y j).1 (pm_ws Y TW j) (pm_R d (cost j).1 (cost j).2.1) (pm_Pc D n0 sa ck G as S (cost j).2.2) (pm_Qc D n0 sa ck (cost j).2.2 Q1) (cost j).1 (cost j).2.1 (fun q => n0 ≤ q) := by
  intro p e h1 h2 h3 s m args below h4 h5 h6 h7
  obtain ⟨n, o, g1, g2, g3, g4⟩ := h p e h1 h2 h3 s m args below h4 h5 h6 h7
  refine ⟨n, o, g1, g2, g3, ?_⟩
  rcases g4 with g4 | ⟨q, -, E, ce, L, ⟨⟨S1, hq, -⟩, -⟩, -⟩
  · exact g4
  · exact (hn _ _ hq).elim
theorem so_init {d : Nat} (B : pm_B p s m args meth c D ck n0 C cc nL own Ts G) (hT : pm_TW TW Ts) (hGm : pm_Gm n0 G) {call : pCall} (hcall : ∀ j as S Q, call j as S Q → pm_Met l D n0 sa ck G TW Y cost d j as S Q) {al : Bool} {nxe : Nat} (hal : al = true → s.heap.size ≤ n0 + nxe) {X : pF} (hX : ∀ pc ls st uc us S, uc ≤ mc ∧ us ≤ ms → X pc ls st uc us S → pm_X p l e (pm_R (d + 1) mc ms) s m args below meth c D n0 sa ck nL mc ms al Q pc ls st uc us S)
    {pc tg : Nat} {ls : pL} {st : List Value} {uc us : Nat} {S : pS} {i j n : Nat} {host : String} (hd : pm_okI cc pc (.invokespecial i) tg) (hY : pm_okY Y TW j n) (hnm : (Y j).1.name = "<init>") (hrn : (Y j).2.2.2 = none) (hlk : va_Nw (.methodLinkNest own i (Y j).1 host) s) (hin : Cond.instanceMethod (Y j).1 ∈ TW)
    (h : pm_ar1 st n (fun as r => pm_r r (fun b r => pm_inv call cost al nxe mc ms (fun _ _ => False) X pc ls j (.ref b :: as) r uc us S))) : pm_X p l e (pm_R (d + 1) mc ms) s m args below meth c D n0 sa ck nL mc ms al Q pc ls st uc us S := by
  intro lsA H locs hl hP hS
  obtain ⟨hn, h⟩ := h
  obtain ⟨b, r, hr0, h4, h5, h6, h7, h8⟩ := pm_r_e h
  clear h
  have B' := B
  obtain ⟨hx, hb, hml, hown, hts, hrt, hlocks, hex, hini, hK, hn0, hG⟩ := B
  refine pm_size (fun hz => ?_)
  have hM := pm_calm (hcall _ _ _ _ h8) (fun E S h => h)
  have hcn := va_cnB (args := args) (R := pm_R (d + 1) mc ms) (own := own) (host := host) (index := i) (ws := pm_ws Y TW j) (rm := pm_R d (cost j).1 (cost j).2.1) n hts (pm_good hT hY) rfl rfl rfl hlk (hts _ (hT.1 _ hY.2.2.2.2.2)) ⟨hY.2.2.1, hY.2.2.2.1, hY.2.2.2.2.1⟩ ⟨Nat.le_refl _, by have := hY.2.1; show 8 + ((Y j).2.2.1 + 11) + 40 * d ≤ 40 * (d + 1); omega⟩
  rw [hrn] at hcn
  have hr := va_runIN (b := n0 + b) (As := (st.take n).reverse.map (pm_v n0 sa)) (rest := r.map (pm_v n0 sa)) (Ts := Ts) (meth := meth) (below := below) (e := e) (locs := locs) (cells := uc) (slots := us) (g := F0 m pc lsA (st.map (pm_v n0 sa))) ⟨hx, hb, hml, hown, hts⟩ hM ⟨hcn, hnm, hts _ (hT.1 _ hin)⟩ ⟨pm_Pc_blind hGm, pm_Pc_at hGm hn0 hK hG hP hS (fun q => by obtain ⟨q1, q2⟩ := h7 q; have := hal q1; omega)⟩ rfl (by simp; omega) hl.2.1
    (by show st.map (pm_v n0 sa) = _; rw [← List.map_reverse, List.reverse_reverse]; show _ = List.map (pm_v n0 sa) (st.take n) ++ List.map (pm_v n0 sa) (.ref b :: r); rw [← hr0, ← List.map_append, List.take_append_drop]) (by simpa [F0, JFrame.monitorRoom] using pm_rest4 h4) (hd.d rfl) ⟨h5, h6⟩
  refine pm_aft (Q1 := pm_po cost (fun _ _ => False) X pc ls j r uc us) (r := r) (a := ((.ref b :: (st.take n).reverse).map (pm_v n0 sa)).toArray) (R := pm_R (d + 1) mc ms) B' (fun _ _ h => h) (fun _ _ h => False.elim h) hX hl hS h5 h6 ?_
  exact fun T hT0 X0 => Or.inl (hr T hT0 X0)
theorem so_objInit {d : Nat} (B : pm_B p s m args meth c D ck n0 C cc nL own Ts G) (hT : pm_TW TW Ts) {pc tg : Nat} {ls : pL} {st : List Value} {uc us : Nat} {S : pS} {i ci : Nat} (hd : pm_okI cc pc (.invokespecial i) tg) (hlk : Cond.methodLink own i Lib.objectInit ∈ TW) (hin : Cond.instanceMethod Lib.objectInit ∈ TW) (hco : Cond.code Lib.objectInit ⟨#[0xb1]⟩ 1 none ∈ TW)
    (h : 2 ≤ d ∧ pm_r st (fun b r => pm_ob S b ci (fun _ => True) ∧ r = [] ∧ pm_X p l e (pm_R d mc ms) s m args below meth c D n0 sa ck nL mc ms al Q (pc + 3) ls r uc us S)) : pm_X p l e (pm_R d mc ms) s m args below meth c D n0 sa ck nL mc ms al Q pc ls st uc us S := by
  intro lsA H locs hl hP hS
  obtain ⟨hd2, h⟩ := h
  obtain ⟨b, r, rfl, hob, hr0, h2⟩ := pm_r_e h
  clear h
  subst hr0
  obtain ⟨hx, hb, hml, hown, hts, hrt, hlocks, hex, hini, hK, hn0, hG⟩ := B
  exact W.objInit hx hb hown (hts _ (hT.1 _ hlk)) (hts _ (hT.1 _ hin)) (hts _ (hT.1 _ hco)) rfl (by rw [hml]; exact hl.2.1) rfl (hd.d rfl) (by show 1 ≤ d; omega) (by show _ ≤ 40 * d; simp [JFrame.monitorRoom]; omega) (h2 lsA H locs hl hP hS)
end PMC
end
section
def pm_okN (own : String) (Ts : List Cond) (i ci : Nat) (fs : List Value) : Prop := ∃ (C' : String) (T : u_T) (N : Nat), vwCl[ci]? = some (C', T, N) ∧ Cond.classLink own i C' ∈ Ts ∧ Cond.instantiable C' N ∈ Ts ∧ Cond.initialized C' ∈ Ts ∧ fs.length = N ∧ (∀ j, j < N → ∀ t, parseFieldDescriptor (T j).2.2.1 = some t → defaultValue t = vp_V fs j) ∧ ∀ n0 sa, fs.map (pm_v n0 sa) = fs
def pm_okK (own : String) (Ts : List Cond) (sa : Nat → Nat) (s : State) (i : Nat) (v : Value) : Prop := match v with
  | .int x => Cond.constant own i x ∈ Ts
  | .long x => Cond.constantLong own i x ∈ Ts
  | .retAddr k => ∃ tx, vk_R own i tx (sa k) s
  | _ => False
section PMN
variable {p : Program} {l : Launch} {e : Env} {R : Room} {s : State} {m : MethodId} {args : Array Value} {below : List Frame} {meth : Method} {c : Code} {D : va_G} {n0 : Nat} {sa : Nat → Nat} {ck : Nat → ClassId} {nL mc ms : Nat} {al : Bool} {Q : pQ} {C : pC} {cc : ByteArray} {own : String} {Ts TW : List Cond} {G : State → Prop}
theorem pm_fresh {A : Nat → Prop} {S : pS} {q : Nat} {E : va_E} {H1 : Heap} {b : Nat} (hD : va_D (fun q => n0 ≤ q) (pm_w n0 sa ck S ++ [(q, E)])) (hP : va_P D vwCl (pm_w n0 sa ck S ++ [(q, E)]) H1) (hz : H1.size ≤ b) (hb : b = n0 + S.1 + 1) : q = n0 + S.1 := by
  have e0 : (pm_w n0 sa ck S ++ [(q, E)])[S.1]? = some (q, E) := by
    rw [List.getElem?_append_right (by rw [pm_w_len]; exact Nat.le_refl _), pm_w_len, Nat.sub_self]; rfl
  have h1 : n0 ≤ q := hD.2 S.1 _ e0
  have h2 : q < H1.size := (hP S.1 _ e0).lt
  by_cases h3 : q < n0 + S.1
  · have e1 : (pm_w n0 sa ck S ++ [(q, E)])[q - n0]? = some (n0 + (q - n0), pm_e n0 sa ck (S.2 (q - n0))) := by
      rw [List.getElem?_append_left (by rw [pm_w_len]; omega), pm_w_get (by omega)]
    have := hD.1 (q - n0) S.1 _ _ e1 e0 (by show n0 + (q - n0) = q; omega)
    omega
  · omega
theorem so_new {d : Nat} (B : pm_B p s m args meth c D ck n0 C cc nL own Ts G) (hC : pm_okC Ts) {al : Bool} {nxe : Nat} (hal : al = true → s.heap.size ≤ n0 + nxe) {pc tg : Nat} {ls : pL} {st : List Value} {uc us : Nat} {S : pS} {i ci : Nat} {fs : List Value} (hd : pm_okI cc pc (.new i) tg) (hN : pm_okN own Ts i ci fs)
    (h : uc + 1 ≤ mc ∧ us + fs.length ≤ ms ∧ (al = true ∧ S.1 = nxe + uc) ∧ pm_X p l e (pm_R d mc ms) s m args below meth c D n0 sa ck nL mc ms al Q (pc + 3) ls (.ref S.1 :: st) (uc + 1) (us + fs.length) (S.1 + 1, va_up S.2 S.1 (.inr (ci, fs)))) : pm_X p l e (pm_R d mc ms) s m args below meth c D n0 sa ck nL mc ms al Q pc ls st uc us S := by
  intro lsA H locs hl hP hS
  obtain ⟨h1, h2, ⟨h3, h4⟩, h⟩ := h
  obtain ⟨C', T, N, hc, hcl, hins, hini', hlen, hdef, hmap⟩ := hN
  obtain ⟨hin, ty0, hty, hnm⟩ := hC _ _ _ _ hc
  obtain ⟨hx, hb, hml, hown, hts, hrt, hlocks, hex, hini, hK, hn0, hG⟩ := B
  have hsz := hal h3
  subst hlen
  refine va_new (D := D) (ci := ci) (fs := fs) (C := C') (T := T) (N := fs.length) hx hb hts hin ty0 hty hown (hts _ hcl) (hts _ hins) (hts _ hini') hK hP pm_w_D hS (fun q h => Nat.le_trans hn0 h) hc (fun j hj => hdef j hj _ (hty j hj)) h1 h2 (hd.d rfl) (fun q H1 hP1 hD1 hS1 => ?_)
  refine pm_size (fun hz => ?_)
  have hq : q = n0 + S.1 := pm_fresh (A := fun _ => True) hD1 hP1 (Nat.le_trans hz (Nat.add_le_add_right hsz _)) (by omega)
  subst hq
  have e2 : pm_w n0 sa ck S ++ [(n0 + S.1, .inr (ci, fs))] = pm_w n0 sa ck (S.1 + 1, va_up S.2 S.1 (.inr (ci, fs))) := by
    rw [← pm_w_push]
    show _ = pm_w n0 sa ck S ++ [(n0 + S.1, .inr (ci, fs.map (pm_v n0 sa)))]
    rw [hmap]
  rw [e2] at hP1
  exact h lsA H1 locs hl hP1 hS1
theorem so_newarray {d : Nat} (B : pm_B p s m args meth c D ck n0 C cc nL own Ts G) {al : Bool} {nxe : Nat} (hal : al = true → s.heap.size ≤ n0 + nxe) {pc tg : Nat} {ls : pL} {st : List Value} {uc us : Nat} {S : pS} {t : ClassFile.ArrayType} (hd : pm_okI cc pc (.newarray t) tg) (ha : Cond.arrayClass (newarray.typeOf t) ∈ Ts)
    (h : pm_o (pm_akd t) (fun kd => pm_i st (fun n r => ¬ n < 0 ∧ n.toNatClampNeg ≤ 65536 ∧ uc + 1 ≤ mc ∧ us + n.toNatClampNeg ≤ ms ∧ (al = true ∧ S.1 = nxe + uc) ∧ pm_X p l e (pm_R d mc ms) s m args below meth c D n0 sa ck nL mc ms al Q (pc + 2) ls (.ref S.1 :: r) (uc + 1) (us + n.toNatClampNeg) (S.1 + 1, va_up S.2 S.1 (pm_na kd n.toNatClampNeg))))) : pm_X p l e (pm_R d mc ms) s m args below meth c D n0 sa ck nL mc ms al Q pc ls st uc us S := by
  intro lsA H locs hl hP hS
  obtain ⟨kd, hkd, h⟩ := pm_o_e h
  obtain ⟨n, r, rfl, hn, hN, h1, h2, ⟨h3, h4⟩, h9⟩ := pm_i_e h
  clear h
  have h := h9
  clear h9
  obtain ⟨hx, hb, hml, hown, hts, hrt, hlocks, hex, hini, hK, hn0, hG⟩ := B
  have hsz := hal h3
  have fin : ∀ (ty : FieldType) (a0 : vp_A) (kd : Nat), newarray.typeOf t = ty → (pm_tys ck)[kd]? = some (ck kd, ty) → (∀ cA cB, va_RA s cA ty → va_RA s cB ty → cA = cB) → (∀ cA : ClassId, vp_cell cA a0 = arrV cA n.toNatClampNeg (fun _ => defaultValue ty)) → componentBytes ty ≤ 8 → pm_e n0 sa ck (pm_na kd n.toNatClampNeg) = .inl (ck kd, a0) →
      pm_X p l e (pm_R d mc ms) s m args below meth c D n0 sa ck nL mc ms al Q (pc + 2) ls (.ref S.1 :: r) (uc + 1) (us + n.toNatClampNeg) (S.1 + 1, va_up S.2 S.1 (pm_na kd n.toNatClampNeg)) →
      W p l e (pm_R d mc ms) s m args below meth c H locs uc us (vx_MQ below (pm_Qc D n0 sa ck al Q) (pm_XC D n0 sa ck Q) args s mc ms (fun q => n0 ≤ q)) (F0 m pc lsA ((Value.int n :: r).map (pm_v n0 sa))) := by
    intro ty a0 kd h1' h2' h3' h4' h5' h6' h
    refine va_newa (D := D) hx hb (hts _ ha) h1' hK hP pm_w_D hS (fun q h => Nat.le_trans hn0 h) (n := n) (N' := n.toNatClampNeg) (a0 := a0) h4' hn rfl (Nat.le_trans (Nat.mul_le_mul hN h5') (by decide)) h1 h2 (hd.d rfl) (fun q cA H1 hK1 hP1 hD1 hS1 => ?_)
    have hcA : cA = ck kd := by
      have g1 := (hK.2 kd _ h2').2
      have g2 := (hK1.2 (pm_tys ck).length (cA, ty) (by rw [List.getElem?_append_right (Nat.le_refl _), Nat.sub_self]; rfl)).2
      exact h3' _ _ g2 g1
    subst hcA
    refine pm_size (fun hz => ?_)
    have hq : q = n0 + S.1 := pm_fresh (A := fun _ => True) hD1 hP1 (Nat.le_trans hz (Nat.add_le_add_right hsz _)) (by omega)
    subst hq
    rw [← h6', pm_w_push] at hP1
    exact h lsA H1 locs hl hP1 hS1
  cases t <;> simp only [pm_akd, Option.some.injEq, reduceCtorEq] at hkd
  · subst hkd
    exact fin .boolean (n.toNatClampNeg, .inl (fun _ => 0)) 3 rfl rfl (fun cA cB g1 g2 => Option.some.inj (g1.symm.trans g2)) (fun _ => rfl) (by decide) rfl h
  · subst hkd
    exact fin .char (n.toNatClampNeg, .inl (fun _ => 0)) 2 rfl rfl (fun cA cB g1 g2 => Option.some.inj (g1.symm.trans g2)) (fun _ => rfl) (by decide) rfl h
  · subst hkd
    exact fin .int (n.toNatClampNeg, .inl (fun _ => 0)) 0 rfl rfl (fun cA cB g1 g2 => Option.some.inj (g1.symm.trans g2)) (fun _ => rfl) (by decide) rfl h
  · subst hkd
    exact fin .long (n.toNatClampNeg, .inr (.inl (fun _ => 0))) 1 rfl rfl (fun cA cB g1 g2 => Option.some.inj (g1.symm.trans g2)) (fun _ => rfl) (by decide) rfl h
theorem so_ldc (B : pm_B p s m args meth c D ck n0 C cc nL own Ts G) {pc tg : Nat} {ls : pL} {st : List Value} {uc us : Nat} {S : pS} {i : Nat} (hd : pm_okI cc pc (.ldc i) tg) {o : Option Value} (hk : ∀ v, o = some v → pm_okK own Ts sa s i v) (h : pm_ki o (fun v => pm_X p l e R s m args below meth c D n0 sa ck nL mc ms al Q (pc + 2) ls (v :: st) uc us S)) : pm_X p l e R s m args below meth c D n0 sa ck nL mc ms al Q pc ls st uc us S := by
  intro lsA H locs hl hP hS
  obtain ⟨hx, hb, hml, hown, hts, hrt, hlocks, hex, hini, hK, hn0, hG⟩ := B
  rcases pm_ki_e h with ⟨x, h1, h⟩ | ⟨x, h1, h⟩
  · exact lv_ldc hx hb hown (hts _ (hk _ h1)) (hd.d rfl) (h lsA H locs hl hP hS)
  · obtain ⟨tx, hr⟩ := hk _ h1
    exact va_ldcS hx hb hown hr (hd.d rfl) (h lsA H locs hl hP hS)
theorem so_ldc_w (B : pm_B p s m args meth c D ck n0 C cc nL own Ts G) {pc tg : Nat} {ls : pL} {st : List Value} {uc us : Nat} {S : pS} {i : Nat} (hd : pm_okI cc pc (.ldc_w i) tg) {o : Option Value} (hk : ∀ v, o = some v → pm_okK own Ts sa s i v) (hni : ∀ k, o ≠ some (.retAddr k)) (h : pm_ki o (fun v => pm_X p l e R s m args below meth c D n0 sa ck nL mc ms al Q (pc + 3) ls (v :: st) uc us S)) : pm_X p l e R s m args below meth c D n0 sa ck nL mc ms al Q pc ls st uc us S := by
  intro lsA H locs hl hP hS
  obtain ⟨hx, hb, hml, hown, hts, hrt, hlocks, hex, hini, hK, hn0, hG⟩ := B
  rcases pm_ki_e h with ⟨x, h1, h⟩ | ⟨x, h1, h⟩
  · exact lv_ldcw hx hb hown (hts _ (hk _ h1)) (hd.d rfl) (h lsA H locs hl hP hS)
  · exact (hni _ h1).elim
theorem so_ldc2_w (B : pm_B p s m args meth c D ck n0 C cc nL own Ts G) {pc tg : Nat} {ls : pL} {st : List Value} {uc us : Nat} {S : pS} {i : Nat} (hd : pm_okI cc pc (.ldc2_w i) tg) {o : Option Value} (hk : ∀ v, o = some v → pm_okK own Ts sa s i v) (h : pm_kl o (fun v => pm_X p l e R s m args below meth c D n0 sa ck nL mc ms al Q (pc + 3) ls (.long v :: st) uc us S)) : pm_X p l e R s m args below meth c D n0 sa ck nL mc ms al Q pc ls st uc us S := by
  intro lsA H locs hl hP hS
  obtain ⟨hx, hb, hml, hown, hts, hrt, hlocks, hex, hini, hK, hn0, hG⟩ := B
  obtain ⟨x, h1, h⟩ := pm_kl_e h
  exact lv_ldc2 hx hb hown (hts _ (hk _ h1)) (hd.d rfl) (h lsA H locs hl hP hS)
theorem so_cpy {e0 : Env} {d : Nat} (B : pm_B p s m args meth c D ck n0 C cc nL own Ts G) (hT : pm_TW TW Ts) {pc tg : Nat} {ls : pL} {st : List Value} {uc us : Nat} {S : pS} {i : Nat} (hd : pm_okI cc pc (.invokestatic i) tg) (hlk : Cond.methodLink own i arraycopyName ∈ TW) (hna : Cond.native arraycopyName ∈ TW) (hst : Cond.static arraycopyName ∈ TW) (hin : Cond.initialized "java/lang/System" ∈ TW)
    (h : 3 ≤ d ∧ pm_cpy S st (fun b e r => r.length ≤ 4 ∧ pm_X p l e0 (pm_R d mc ms) s m args below meth c D n0 sa ck nL mc ms al Q (pc + 3) ls r uc us (pm_up S b e))) : pm_X p l e0 (pm_R d mc ms) s m args below meth c D n0 sa ck nL mc ms al Q pc ls st uc us S := by
  intro lsA H locs hl hP hS
  obtain ⟨hd3, h⟩ := h
  unfold pm_cpy at h
  split at h
  · rename_i n dp b sp a r
    obtain ⟨ha, na, g, hg, h⟩ := pm_ar_e h
    obtain ⟨hb', nb, f, hf, h1, h2, h3, h4, h5, h6, h⟩ := pm_ar_e h
    obtain ⟨hx, hb, hml, hown, hts, hrt, hlocks, hex, hini, hK, hn0, hG⟩ := B
    refine va_copyi (c0 := ck 0) (c1 := ck 0) (n0 := na) (n1 := nb) (f := g) (g := f) (ty := .int) hx hb (by rw [hml]; exact hl.2.1.symm) hown (hts _ (hT.1 _ hlk)) (hts _ (hT.1 _ hna)) (hts _ (hT.1 _ hst)) (hts _ (hT.1 _ hin)) hK hP pm_w_D hS a b 0 0 (by rw [pm_w_get ha, hg]; rfl) (by rw [pm_w_get hb', hf]; rfl) rfl rfl rfl h1 h2 h3 h4 h5 (fun _ _ => rfl) (by show 1 ≤ d; omega) (by have := pm_rest4 (n0 := n0) (sa := sa) h6; show _ ≤ 40 * d; have e9 : nativeFrameWords "java/lang/System" "arraycopy" 5 = 7 := (by decide); rw [e9]; omega) (hd.d rfl) (fun H1 locs1 hP1 _ hS1 => ?_)
    exact h lsA H1 locs1 hl ((pm_w_set (n0 := n0) (sa := sa) (ck := ck) (S := S) (i := b) (.inl (0, nb, .inl (va_cpy g f sp.toNatClampNeg dp.toNatClampNeg n.toNatClampNeg)))) ▸ hP1) hS1
  · exact h.elim
/-- a throw: new, dup, ldc, invokespecial, athrow -/
def pm_okX (l : Launch) (cc : ByteArray) (own : String) (n0 : Nat) (s : State) (args : Array Value) (pc : Nat) (E : String) : Prop := ∃ (text : String) (names : List String) (ik is ic a : Nat), l.stackTraces = false ∧ Bundle.fit E = true ∧ (∀ n ∈ names, Bundle.fit n = true) ∧ names.length ≤ 3 ∧ (Cond.classLink own ik E).before args s = true ∧ (Cond.initialized E).before args s = true ∧ vk_R own is text a s ∧ (∀ w ∈ vx_atS own ic E names, w.before args s = true) ∧ (∀ w ∈ Cond.classLink own ik E :: Cond.initialized E :: vx_atS own ic E names, vx_ot w = true) ∧
  vx_Zq Bundle.tN "UNASSIGNED_STACK" Bundle.steD (fun q => n0 ≤ q) s s.heap ∧ vx_Zq Bundle.tN "SUPPRESSED_SENTINEL" Bundle.listD (fun q => n0 ≤ q) s s.heap ∧
  decode cc pc = .ok (.new ik, 3) ∧ decode cc (pc + 3) = .ok (.dup, 1) ∧ ((decode cc (pc + 4) = .ok (.ldc is, 2) ∧ decode cc (pc + 6) = .ok (.invokespecial ic, 3) ∧ decode cc (pc + 9) = .ok (.athrow, 1)) ∨ (decode cc (pc + 4) = .ok (.ldc_w is, 3) ∧ decode cc (pc + 7) = .ok (.invokespecial ic, 3) ∧ decode cc (pc + 10) = .ok (.athrow, 1)))
theorem so_throw {d : Nat} (B : pm_B p s m args meth c D ck n0 C cc nL own Ts G) {pc : Nat} {ls : pL} {st : List Value} {uc us : Nat} {S : pS} {E : String} (hX : pm_okX l cc own n0 s args pc E)
    (h : 7 ≤ d ∧ st.length ≤ 4 ∧ uc + 1 ≤ mc ∧ us + 6 ≤ ms ∧ Q (.inr E) S) : pm_X p l e (pm_R d mc ms) s m args below meth c D n0 sa ck nL mc ms al Q pc ls st uc us S := by
  intro lsA H locs hl hP hS
  obtain ⟨h1, h2, h3, h4, h⟩ := h
  obtain ⟨text, names, ik, is, ic, a, x1, x2, x3, x4, x5, x6, x7, x8, x9, x10, x11, d0, d3, dd⟩ := hX
  obtain ⟨hx, hb, hml, hown, hts, hrt, hlocks, hex, hini, hK, hn0, hG⟩ := B
  have hr4 := pm_rest4 (n0 := n0) (sa := sa) h2
  have hx9 : ∀ t : State, s.vm.Alike t.vm → H.size ≤ t.heap.size → (∀ q : Nat, q < H.size → t.heap[q]? = H[q]?) → pm_XC D n0 sa ck Q E s t := by
    intro t ht1 ht2 ht3
    refine ⟨⟨S, h, hP.kept (fun k q hk => ht3 _ (hP k q hk).lt)⟩, Nat.le_trans hS.1 ht2, fun q hq hn => ?_⟩
    rw [ht3 q (Nat.lt_of_lt_of_le hq hS.1)]
    exact hS.2.1 q hq hn
  rcases dd with ⟨d4, d6, d9⟩ | ⟨d4, d7, d10⟩
  · exact vx_throwS (names := names) hx hb x1 hown x2 x3 x5 x6 x7 x8 x9 x10 x11 hS (by rw [hml]; exact hl.2.1) d0 d3 d4 d6 d9 (fun x hx => (hex x hx).elim) (by show names.length + 3 < d; omega) (by show _ ≤ 40 * d; omega) h3 h4 hlocks hx9 hS.2.2 h3 h4
  · exact vx_throwSW (names := names) hx hb x1 hown x2 x3 x5 x6 x7 x8 x9 x10 x11 hS (by rw [hml]; exact hl.2.1) d0 d3 d4 d7 d10 (fun x hx => (hex x hx).elim) (by show names.length + 3 < d; omega) (by show _ ≤ 40 * d; omega) h3 h4 hlocks hx9 hS.2.2 h3 h4
end PMN
end
section
def pm_okM (own : String) (TW : List Cond) (Y : pY) (n0 : Nat) (sa : Nat → Nat) (s : State) (i : Nat) (q : Nat × Nat × Nat × Nat) : Prop :=
  (q.1 = 0 → pm_okY Y TW q.2.1 q.2.2.1 ∧ Cond.methodLink own i (Y q.2.1).1 ∈ TW ∧ Cond.static (Y q.2.1).1 ∈ TW) ∧
  (q.1 = 1 → pm_okY Y TW q.2.1 q.2.2.1 ∧ Cond.methodLink own i (Y q.2.1).1 ∈ TW ∧ Cond.instanceMethod (Y q.2.1).1 ∈ TW ∧ Cond.selects (Y q.2.1).1.cls (Y q.2.1).1 (Y q.2.1).1 ∈ TW ∧ ∃ (T : u_T) (N : Nat), vwCl[q.2.2.2]? = some ((Y q.2.1).1.cls, T, N)) ∧
  (q.1 = 2 → pm_okY Y TW q.2.1 q.2.2.1 ∧ (Y q.2.1).1.name = "<init>" ∧ (Y q.2.1).2.2.2 = none ∧ Cond.instanceMethod (Y q.2.1).1 ∈ TW ∧ ∃ host, va_Nw (.methodLinkNest own i (Y q.2.1).1 host) s) ∧
  (q.1 = 3 → Cond.methodLink own i Lib.objectInit ∈ TW ∧ Cond.instanceMethod Lib.objectInit ∈ TW ∧ Cond.code Lib.objectInit ⟨#[0xb1]⟩ 1 none ∈ TW) ∧
  (q.1 = 4 → Cond.methodLink own i arraycopyName ∈ TW ∧ Cond.native arraycopyName ∈ TW ∧ Cond.static arraycopyName ∈ TW ∧ Cond.initialized "java/lang/System" ∈ TW) ∧
  (q.1 = 6 → pm_okY Y TW q.2.1 q.2.2.1 ∧ Cond.methodLink own i (Y q.2.1).1 ∈ TW ∧ Cond.instanceMethod (Y q.2.1).1 ∈ TW ∧ Cond.selects (Y q.2.1).1.cls (Y q.2.1).1 (Y q.2.1).1 ∈ TW ∧ ∀ b H locs, va_S (fun q => n0 ≤ q) s.heap H locs → ∃ cell : Cell, H[sa b]? = some cell ∧ cell.vm.isStatics = false ∧ s.vm.findClass (Y q.2.1).1.cls = some cell.cls)
/-- all that a method's tables must be -/
def pm_T (l : Launch) (s : State) (args : Array Value) (n0 : Nat) (sa : Nat → Nat) (C : pC) (cc : ByteArray) (own : String) (Ts TW : List Cond) (Y : pY) : Prop :=
  (∀ pc ins tg, pc_in C pc = some (ins, tg) → pm_okI cc pc ins tg) ∧ (∀ i ci k, pc_fl C i = some (ci, k) → pm_okF own Ts (pc_ini C) i ci k) ∧ (∀ i q, pc_ml C i = some q → pm_okM own TW Y n0 sa s i q) ∧ (∀ i v, pc_kc C i = some v → pm_okK own Ts sa s i v) ∧ (∀ pc i tg, pc_in C pc = some (.ldc_w i, tg) → ∀ k, pc_kc C i ≠ some (.retAddr k)) ∧
  (∀ i ci fs, pc_nw C i = some (ci, fs) → pm_okN own Ts i ci fs) ∧ (∀ pc E, pc_th C pc = some E → pm_okX l cc own n0 s args pc E) ∧ (∀ t, Cond.arrayClass (newarray.typeOf t) ∈ Ts ∨ pm_akd t = none) ∧ pm_okC Ts ∧ pm_TW TW Ts
theorem pm_sound_step {p : Program} {l : Launch} {e : Env} {s : State} {m : MethodId} {args : Array Value} {below : List Frame} {meth : Method} {c : Code} {D : va_G} {n0 : Nat} {sa : Nat → Nat} {ck : Nat → ClassId} {nL mc ms : Nat} {al : Bool} {Q : pQ} {C : pC} {cc : ByteArray} {own : String} {Ts TW : List Cond} {G : State → Prop} {Y : pY} {cost : Nat → Nat × Nat × Bool} {d : Nat} (B : pm_B p s m args meth c D ck n0 C cc nL own Ts G) (hT : pm_T l s args n0 sa C cc own Ts TW Y) (hGm : pm_Gm n0 G) {call : pCall} (hcall : ∀ j as S Q, call j as S Q → pm_Met l D n0 sa ck G TW Y cost d j as S Q) {nxe : Nat} (hal : al = true → s.heap.size ≤ n0 + nxe)
    (pc : Nat) (ls : pL) (st : List Value) (uc us : Nat) (S : pS) (h : pm_step C (d + 1) call cost al nxe mc ms Q (fun pc ls st uc us S => uc ≤ mc ∧ us ≤ ms → pm_X p l e (pm_R (d + 1) mc ms) s m args below meth c D n0 sa ck nL mc ms al Q pc ls st uc us S) pc ls st uc us S) : uc ≤ mc ∧ us ≤ ms → pm_X p l e (pm_R (d + 1) mc ms) s m args below meth c D n0 sa ck nL mc ms al Q pc ls st uc us S := by
  intro hu
  obtain ⟨hI, hF, hM, hKc, hKw, hNw, hTh, hAr, hC, hTW⟩ := hT
  have hX : ∀ pc ls st uc us S, uc ≤ mc ∧ us ≤ ms → (uc ≤ mc ∧ us ≤ ms → pm_X p l e (pm_R (d + 1) mc ms) s m args below meth c D n0 sa ck nL mc ms al Q pc ls st uc us S) → pm_X p l e (pm_R (d + 1) mc ms) s m args below meth c D n0 sa ck nL mc ms al Q pc ls st uc us S := fun _ _ _ _ _ _ hb h => h hb
  unfold pm_step at h
  cases hin : pc_in C pc with
  | none => rw [hin] at h; exact h.elim
  | some q =>
    obtain ⟨ins, tg⟩ := q
    rw [hin] at h
    have hd := hI _ _ _ hin
    cases ins with
    | iconst n => exact so_iconst B hd (h hu)
    | bipush n => exact so_bipush B hd (h hu)
    | sipush n => exact so_sipush B hd (h hu)
    | lconst n => exact so_lconst B hd (h hu)
    | ldc i => exact so_ldc B hd (fun v hv => hKc _ _ hv) (pm_ki_m (fun _ q => q hu) h)
    | ldc_w i => exact so_ldc_w B hd (fun v hv => hKc _ _ hv) (hKw _ _ _ hin) (pm_ki_m (fun _ q => q hu) h)
    | ldc2_w i => exact so_ldc2_w B hd (fun v hv => hKc _ _ hv) (pm_kl_m (fun _ q => q hu) h)
    | iload i => exact so_iload B hd (pm_gi_m (fun _ q => q hu) h)
    | iload_n i => exact so_iload_n B hd (pm_gi_m (fun _ q => q hu) h)
    | lload i => exact so_lload B hd (pm_gl_m (fun _ q => q hu) h)
    | lload_n i => exact so_lload_n B hd (pm_gl_m (fun _ q => q hu) h)
    | aload i => exact so_aload B hd (pm_ga_m (fun _ q => q hu) h)
    | aload_n i => exact so_aload_n B hd (pm_ga_m (fun _ q => q hu) h)
    | istore i => exact so_istore B hd (pm_i_m (fun _ _ q => ⟨q.1, q.2 hu⟩) h)
    | istore_n i => exact so_istore_n B hd (pm_i_m (fun _ _ q => ⟨q.1, q.2 hu⟩) h)
    | lstore i => exact so_lstore B hd (pm_l_m (fun _ _ q => ⟨q.1, q.2 hu⟩) h)
    | lstore_n i => exact so_lstore_n B hd (pm_l_m (fun _ _ q => ⟨q.1, q.2 hu⟩) h)
    | astore i => exact so_astore B hd (pm_a_m (fun _ _ q => ⟨q.1, q.2 hu⟩) h)
    | astore_n i => exact so_astore_n B hd (pm_a_m (fun _ _ q => ⟨q.1, q.2 hu⟩) h)
    | iinc i n => exact so_iinc B hd (pm_gi_m (fun _ q => ⟨q.1, q.2 hu⟩) h)
    | iadd => exact so_iadd B hd (pm_ii_m (fun _ _ _ q => q hu) h)
    | isub => exact so_isub B hd (pm_ii_m (fun _ _ _ q => q hu) h)
    | imul => exact so_imul B hd (pm_ii_m (fun _ _ _ q => q hu) h)
    | idiv => exact so_idiv B hd (pm_ii_m (fun _ _ _ q => ⟨q.1, q.2 hu⟩) h)
    | irem => exact so_irem B hd (pm_ii_m (fun _ _ _ q => ⟨q.1, q.2 hu⟩) h)
    | iand => exact so_iand B hd (pm_ii_m (fun _ _ _ q => q hu) h)
    | ior => exact so_ior B hd (pm_ii_m (fun _ _ _ q => q hu) h)
    | ixor => exact so_ixor B hd (pm_ii_m (fun _ _ _ q => q hu) h)
    | ishl => exact so_ishl B hd (pm_ii_m (fun _ _ _ q => q hu) h)
    | ishr => exact so_ishr B hd (pm_ii_m (fun _ _ _ q => q hu) h)
    | iushr => exact so_iushr B hd (pm_ii_m (fun _ _ _ q => q hu) h)
    | ladd => exact so_ladd B hd (pm_ll_m (fun _ _ _ q => q hu) h)
    | lsub => exact so_lsub B hd (pm_ll_m (fun _ _ _ q => q hu) h)
    | land => exact so_land B hd (pm_ll_m (fun _ _ _ q => q hu) h)
    | lor => exact so_lor B hd (pm_ll_m (fun _ _ _ q => q hu) h)
    | lxor => exact so_lxor B hd (pm_ll_m (fun _ _ _ q => q hu) h)
    | lshl => exact so_lshl B hd (pm_li_m (fun _ _ _ q => q hu) h)
    | lushr => exact so_lushr B hd (pm_li_m (fun _ _ _ q => q hu) h)
    | lcmp => exact so_lcmp B hd (pm_ll_m (fun _ _ _ q => q hu) h)
    | i2l => exact so_i2l B hd (pm_i_m (fun _ _ q => q hu) h)
    | l2i => exact so_l2i B hd (pm_l_m (fun _ _ q => q hu) h)
    | i2c => exact so_i2c B hd (pm_i_m (fun _ _ q => q hu) h)
    | dup => exact so_dup B hd (pm_dup_m (fun _ _ q => q hu) h)
    | pop => exact so_pop B hd (pm_dup_m (fun _ _ q => q hu) h)
    | dup2 => exact so_dup2 B hd (pm_dup2_m (fun _ _ _ q => q hu) h)
    | goto o => exact so_goto B hd (h hu)
    | ifCond cd o => exact so_ifCond B hd (pm_i_m (fun _ _ => pm_cd_m (fun q => q hu) (fun q => q hu)) h)
    | if_icmp cd o => exact so_if_icmp B hd (pm_ii_m (fun _ _ _ => pm_cd_m (fun q => q hu) (fun q => q hu)) h)
    | tableswitch df lo hi os => exact so_tableswitch B hd (pm_i_m (fun _ _ => pm_sw_m (fun _ q => q hu)) h)
    | getfield i =>
      obtain ⟨⟨ci, k⟩, hq, h1⟩ := pm_o_e h
      exact so_getfield B hC hd (hF _ _ _ hq) (pm_r_m (fun _ _ => pm_ob_m (fun _ => pm_o_m (fun _ q => q hu))) h1)
    | putfield i =>
      obtain ⟨⟨ci, k⟩, hq, h1⟩ := pm_o_e h
      exact so_putfield B hC hd (hF _ _ _ hq) (pm_vr_m (fun _ _ _ => pm_ob_m (fun _ z => ⟨z.1, pm_o_m (fun _ q => ⟨q.1, q.2.1, q.2.2 hu⟩) z.2⟩)) h1)
    | iaload => exact so_iaload B hd (pm_ir_m (fun _ _ _ => pm_ar_m (fun _ _ => pm_ix_m (fun q => q hu))) h)
    | caload => exact so_caload B hd (pm_ir_m (fun _ _ _ => pm_ar_m (fun _ _ => pm_ix_m (fun q => q hu))) h)
    | baload => exact so_baload B hd (pm_ir_m (fun _ _ _ => pm_ar_m (fun _ _ => pm_ix_m (fun q => q hu))) h)
    | laload => exact so_laload B hd (pm_ir_m (fun _ _ _ => pm_aj_m (fun _ _ => pm_ix_m (fun q => q hu))) h)
    | iastore => exact so_iastore B hd (pm_iir_m (fun _ _ _ _ => pm_ar_m (fun _ _ => pm_ix_m (fun q => q hu))) h)
    | castore => exact so_castore B hd (pm_iir_m (fun _ _ _ _ => pm_ar_m (fun _ _ => pm_ix_m (fun q => q hu))) h)
    | bastore => exact so_bastore B hd (pm_iir_m (fun _ _ _ _ => pm_ar_m (fun _ _ => pm_ix_m (fun q => q hu))) h)
    | lastore => exact so_lastore B hd (pm_lir_m (fun _ _ _ _ => pm_aj_m (fun _ _ => pm_ix_m (fun q => q hu))) h)
    | arraylength => exact so_arraylength B hd (pm_r_m (fun _ _ => pm_an_m (fun _ q => q hu)) h)
    | invokestatic i =>
      obtain ⟨q, hq, h1⟩ := pm_o_e h
      obtain ⟨m0, m1, m2, m3, m4, m6⟩ := hM _ _ hq
      rcases h1 with ⟨hk, h1⟩ | ⟨hk, hd3, h1⟩
      · obtain ⟨g1, g2, g3⟩ := m0 hk
        exact so_static B hTW hGm hcall hal hX hd g1 g2 g3 h1
      · obtain ⟨g1, g2, g3, g4⟩ := m4 hk
        exact so_cpy B hTW hd g1 g2 g3 g4 ⟨hd3, pm_cpy_m (fun _ _ _ z => ⟨z.1, z.2 hu⟩) h1⟩
    | invokevirtual i =>
      obtain ⟨q, hq, h1⟩ := pm_o_e h
      obtain ⟨m0, m1, m2, m3, m4, m6⟩ := hM _ _ hq
      rcases h1 with ⟨hk, h1⟩ | ⟨hk, h1⟩
      · obtain ⟨g1, g2, g3, g4, T, N, g5⟩ := m1 hk
        exact so_virtual B hTW hGm hcall hal hX hd g1 g2 g3 g4 g5 h1
      · obtain ⟨g1, g2, g3, g4, g5⟩ := m6 hk
        exact so_text B hTW hGm hcall hal hX hd g1 g2 g3 g4 g5 h1
    | invokespecial i =>
      obtain ⟨q, hq, h1⟩ := pm_o_e h
      obtain ⟨m0, m1, m2, m3, m4, m6⟩ := hM _ _ hq
      rcases h1 with ⟨hk, hd2, h1⟩ | ⟨hk, h1⟩
      · obtain ⟨g1, g2, g3⟩ := m3 hk
        exact so_objInit B hTW hd g1 g2 g3 ⟨hd2, pm_r_m (fun _ _ z => ⟨z.1, z.2.1, z.2.2 hu⟩) h1⟩
      · obtain ⟨g1, g2, g3, g4, host, g5⟩ := m2 hk
        exact so_init B hTW hGm hcall hal hX hd g1 g2 g3 g5 g4 h1
    | new i =>
      cases hth : pc_th C pc with
      | some E =>
        dsimp only at h
        rw [hth] at h
        exact so_throw B (hTh _ _ hth) h
      | none =>
        dsimp only at h
        rw [hth] at h
        obtain ⟨⟨ci, fs⟩, hq, h1, h2, h3, h4⟩ := pm_o_e h
        exact so_new B hC hal hd (hNw _ _ _ hq) ⟨h1, h2, h3, h4 ⟨h1, h2⟩⟩
    | newarray t =>
      refine so_newarray B hal hd ?_ (pm_o_m (fun _ => pm_i_m (fun _ _ z => ⟨z.1, z.2.1, z.2.2.1, z.2.2.2.1, z.2.2.2.2.1, z.2.2.2.2.2 ⟨z.2.2.1, z.2.2.2.1⟩⟩)) h)
      rcases hAr t with g | g
      · exact g
      · obtain ⟨_, hq, -⟩ := pm_o_e h
        rw [g] at hq
        cases hq
    | ireturn => exact so_ireturn B hu hd h
    | lreturn => exact so_lreturn B hu hd h
    | return_ => exact so_return B hu hd h
    | _ => exact h.elim
def pm_slt (n0 : Nat) (sa : Nat → Nat) (o : Option Value) : Slot := match o with
  | some v => .val (pm_v n0 sa v)
  | none => .second
theorem pm_sl_map (n0 : Nat) (sa : Nat → Nat) (as : List Value) : lg_sl (as.map (pm_v n0 sa)) = (as.flatMap pm_sl).map (pm_slt n0 sa) := by
  induction as with
  | nil => rfl
  | cons v t ih =>
    have e1 : lg_sl ((v :: t).map (pm_v n0 sa)) = (if (pm_v n0 sa v).category = 2 then [Slot.val (pm_v n0 sa v), .second] else [.val (pm_v n0 sa v)]) ++ lg_sl (t.map (pm_v n0 sa)) := rfl
    have e2 : (v :: t).flatMap pm_sl = pm_sl v ++ t.flatMap pm_sl := rfl
    rw [e1, e2, ih, List.map_append, pm_v_cat]
    congr 1
    unfold pm_sl
    split <;> rfl
theorem pm_ent_lr {n0 : Nat} {sa : Nat → Nat} {nL : Nat} {as : List Value} (hlen : (as.flatMap pm_sl).length ≤ nL) : pm_lr n0 sa (lg_sl (as.map (pm_v n0 sa)) ++ List.replicate (nL - (lg_sl (as.map (pm_v n0 sa))).length) Slot.unset).toArray nL (pm_ent nL as) := by
  have hl := lv_entry (as.map (pm_v n0 sa)) (n := nL) (by rw [pm_sl_map, List.length_map]; exact hlen)
  refine ⟨by unfold pm_ent; rw [List.length_append, List.length_replicate]; omega, hl.1, hl.2.1, fun i v hi => ?_⟩
  unfold pm_get pm_ent at hi
  rw [List.getElem?_toArray, pm_sl_map]
  by_cases h : i < (as.flatMap pm_sl).length
  · rw [List.getElem?_append_left h] at hi
    rw [List.getElem?_append_left (by rw [List.length_map]; exact h), List.getElem?_map]
    cases hq : (as.flatMap pm_sl)[i]? with
    | none => rw [hq] at hi; cases hi
    | some o =>
      rw [hq] at hi
      cases o with
      | none => cases hi
      | some w => cases hi; rfl
  · rw [List.getElem?_append_right (Nat.not_lt.mp h), List.getElem?_replicate] at hi
    split at hi <;> cases hi
/-- a method at a depth: what the pure machine says of it the machine does -/
theorem pm_sound_body {l : Launch} {D : va_G} {n0 : Nat} {sa : Nat → Nat} {ck : Nat → ClassId} {G : State → Prop} {TW : List Cond} {Y : pY} {cost : Nat → Nat × Nat × Bool} {d j : Nat} {C : pC} {own : String} (hGm : pm_Gm n0 G) (hown : (Y j).1.cls = own) (hpl : plainName (Y j).1.cls = true) (hrt : (Y j).2.2.2 = pc_rt C) (hini : pc_ini C = true → (Y j).1.name = "<init>")
    (hT : ∀ s args, (∀ w ∈ pm_ws Y TW j, w.before args s = true) → G s → pm_T l s args n0 sa C (Y j).2.1 own (pm_ws Y TW j) TW Y) {call : pCall} (hcall : ∀ j as S Q, call j as S Q → pm_Met l D n0 sa ck G TW Y cost d j as S Q) {as : List Value} {S : pS} {Q : pQ} (hlen : (as.flatMap pm_sl).length ≤ (Y j).2.2.1)
    (h : pm_ev C (d + 1) call cost (cost j).2.2 S.1 (cost j).1 (cost j).2.1 Q 0 (pm_ent (Y j).2.2.1 as) [] 0 0 S) : pm_Met l D n0 sa ck G TW Y cost (d + 1) j as S Q := by
  refine vx_ofW (cc := (Y j).2.1) (maxL := (Y j).2.2.1) (ret := (Y j).2.2.2) hpl rfl ?_
  intro p e s m args below meth c s₁ Bd hml hex hv
  obtain ⟨rfl, hn0, hsz, hP, hK, hG⟩ := hv
  have hts := atoms_spec (ws := pm_ws Y TW j) Bd.pre
  have hownc : s.vm.findClass own = some m.cls := by rw [← hown]; exact findClass_of_methodNamed Bd.named
  have B : pm_B p s m (as.map (pm_v n0 sa)).toArray meth c D ck n0 C (Y j).2.1 (Y j).2.2.1 own (pm_ws Y TW j) G := ⟨Bd.exec, Bd.bytes, hml, hownc, hts, Bd.returns.trans hrt, Bd.notSynchronized, hex, fun q => (name_of_methodNamed Bd.named Bd.method).1.trans (hini q), hK, hn0, hG⟩
  have key := h (fun pc ls st uc us S => uc ≤ (cost j).1 ∧ us ≤ (cost j).2.1 → pm_X p l e (pm_R (d + 1) (cost j).1 (cost j).2.1) s m (as.map (pm_v n0 sa)).toArray below meth c D n0 sa ck (Y j).2.2.1 (cost j).1 (cost j).2.1 (cost j).2.2 Q pc ls st uc us S) (fun pc ls st uc us S' q => pm_sound_step B (hT s _ hts hG) hGm hcall hsz pc ls st uc us S' q) ⟨Nat.zero_le _, Nat.zero_le _⟩
  rw [lg_entry_eq]
  exact key _ s.heap [] (pm_ent_lr hlen) hP va_S.rf
/-- THE CARRYING OVER: every call of the pure machine is the machine's -/
theorem pm_sound {l : Launch} {D : va_G} {n0 : Nat} {sa : Nat → Nat} {ck : Nat → ClassId} {G : State → Prop} {TW : List Cond} {Y : pY} {cost : Nat → Nat × Nat × Bool} {M : Nat → Option (pC × Nat)} {ext : pCall} (hGm : pm_Gm n0 G)
    (hM : ∀ j C nL, M j = some (C, nL) → nL = (Y j).2.2.1 ∧ plainName (Y j).1.cls = true ∧ (Y j).2.2.2 = pc_rt C ∧ (pc_ini C = true → (Y j).1.name = "<init>") ∧ ∀ s args, (∀ w ∈ pm_ws Y TW j, w.before args s = true) → G s → pm_T l s args n0 sa C (Y j).2.1 (Y j).1.cls (pm_ws Y TW j) TW Y)
    (hE : ∀ d j as S Q, 8 ≤ d → M j = none → ext j as S Q → pm_Met l D n0 sa ck G TW Y cost (d + 1) j as S Q) : ∀ d j as S Q, pm_call M cost ext d j as S Q → pm_Met l D n0 sa ck G TW Y cost d j as S Q := by
  intro d
  induction d with
  | zero => exact fun _ _ _ _ h => h.elim
  | succ d ih =>
    intro j as S Q h
    unfold pm_call at h
    cases hm : M j with
    | none => rw [hm] at h; exact hE d j as S Q h.1 hm h.2
    | some q =>
      obtain ⟨C, nL⟩ := q
      rw [hm] at h
      obtain ⟨e1, e2, e3, e4, e5⟩ := hM j C nL hm
      subst e1
      exact pm_sound_body hGm rfl e2 e3 e4 e5 ih h.1 h.2
end
section
def pm_lk1 {α : Type} : List (Nat × α) → Nat → Option α
  | [], _ => none
  | (k, v) :: r, i => if k = i then some v else pm_lk1 r i
def pm_lk2 {α : Type} : List (Nat × List (Nat × α)) → Nat → Option α
  | [], _ => none
  | (b, c) :: r, i => if i < b then pm_lk1 c i else pm_lk2 r i
theorem pm_lk1_mem {α : Type} {l : List (Nat × α)} {i : Nat} {v : α} (h : pm_lk1 l i = some v) : (i, v) ∈ l := by
  induction l with
  | nil => cases h
  | cons q r ih =>
    obtain ⟨k, w⟩ := q
    unfold pm_lk1 at h
    split at h
    · rename_i hk
      subst hk
      cases h
      exact List.mem_cons_self
    · exact List.mem_cons_of_mem _ (ih h)
theorem pm_lk2_mem {α : Type} {l : List (Nat × List (Nat × α))} {i : Nat} {v : α} (h : pm_lk2 l i = some v) : ∃ q ∈ l, (i, v) ∈ q.2 := by
  induction l with
  | nil => cases h
  | cons q r ih =>
    obtain ⟨b, c⟩ := q
    unfold pm_lk2 at h
    split at h
    · exact ⟨(b, c), List.mem_cons_self, pm_lk1_mem h⟩
    · obtain ⟨q, h1, h2⟩ := ih h
      exact ⟨q, List.mem_cons_of_mem _ h1, h2⟩
def pm_ckI (cc : ByteArray) (q : Nat × Instr × Nat) : Bool := match decode cc q.1 with
  | .ok (i, len) => decide (i = q.2.1) && ((pm_len q.2.1 == 0 || len == pm_len q.2.1) && (match pm_off q.2.1 with
    | some o => decide ((q.1 : Int) + o = (q.2.2 : Int))
    | none => true))
  | .error _ => false
theorem pm_ckI_ok {cc : ByteArray} {l : List (Nat × List (Nat × Instr × Nat))} (h : l.all (fun q => q.2.all (pm_ckI cc)) = true) : ∀ pc ins tg, pm_lk2 l pc = some (ins, tg) → pm_okI cc pc ins tg := by
  intro pc ins tg hl
  obtain ⟨q, h1, h2⟩ := pm_lk2_mem hl
  have h3 := List.all_eq_true.mp (List.all_eq_true.mp h q h1) _ h2
  unfold pm_ckI at h3
  dsimp only at h3
  cases hd : decode cc pc with
  | error e => rw [hd] at h3; cases h3
  | ok v =>
    obtain ⟨i, len⟩ := v
    rw [hd] at h3
    simp only [Bool.and_eq_true, decide_eq_true_eq, Bool.or_eq_true, beq_iff_eq] at h3
    obtain ⟨e1, e2, e3⟩ := h3
    subst e1
    refine ⟨⟨len, hd, e2⟩, fun o ho => ?_⟩
    rw [ho] at e3
    simpa using e3
/-- the words that stay -/
def TW : List Cond := lw_tbl.filter goodWord
def inT (pos : Nat) (w : Cond) : Bool := decide (lw_tbl[pos]? = some w) && goodWord w
theorem inT_ok {pos : Nat} {w : Cond} (h : inT pos w = true) : w ∈ TW := by
  simp only [inT, Bool.and_eq_true, decide_eq_true_eq] at h
  exact List.mem_filter.mpr ⟨List.mem_of_getElem? h.1, h.2⟩
theorem TW_ok (Ts : List Cond) (c : Cond) : pm_TW TW (c :: TW) := ⟨fun w h => List.mem_cons_of_mem _ h, fun w h => good_of_word (List.mem_filter.mp h).2⟩
def ckF (own : String) (ini : Bool) (q : Nat × (Nat × Nat) × Nat) : Bool := match vwCl[q.2.1.1]? with
  | some (_, T, N) => decide (q.2.1.2 < N) && (inT q.2.2 (.fieldLink own q.1 (T q.2.1.2).1 (T q.2.1.2).2.1 (T q.2.1.2).2.2.1) && (!ini || (!(T q.2.1.2).2.2.2 || decide ((T q.2.1.2).1 = own))))
  | none => false
theorem ckF_ok {own : String} {ini : Bool} {l : List (Nat × (Nat × Nat) × Nat)} (h : l.all (ckF own ini) = true) {i ci k : Nat} (hl : (pm_lk1 l i).map Prod.fst = some (ci, k)) {c : Cond} : pm_okF own (c :: TW) ini i ci k := by
  cases hq : pm_lk1 l i with
  | none => rw [hq] at hl; cases hl
  | some v =>
    obtain ⟨⟨ci', k'⟩, pos⟩ := v
    rw [hq] at hl
    cases hl
    have h3 := List.all_eq_true.mp h _ (pm_lk1_mem hq)
    unfold ckF at h3
    dsimp only at h3
    cases hc : vwCl[ci]? with
    | none => rw [hc] at h3; cases h3
    | some w =>
      obtain ⟨C', T, N⟩ := w
      rw [hc] at h3
      simp only [Bool.and_eq_true, decide_eq_true_eq, Bool.or_eq_true, Bool.not_eq_true'] at h3
      refine ⟨C', T, N, hc, h3.1, List.mem_cons_of_mem _ (inT_ok h3.2.1), fun h1 h2 => ?_⟩
      rcases h3.2.2 with g | g | g
      · rw [h1] at g; cases g
      · rw [h2] at g; cases g
      · exact g
end
section
def i_X0_init : List (Nat × List (Nat × Instr × Nat)) := [(24, [(0, .aload_n 0, 0), (1, .invokespecial 3, 0), (4, .aload_n 0, 0), (5, .sipush 1120, 0), (8, .newarray .int, 0), (10, .putfield 11, 0), (13, .aload_n 0, 0), (14, .bipush 8, 0), (16, .newarray .int, 0), (18, .putfield 17, 0), (21, .aload_n 0, 0), (22, .bipush 8, 0)]), (1000000, [(24, .newarray .int, 0), (26, .putfield 20, 0), (29, .aload_n 0, 0), (30, .bipush 8, 0), (32, .newarray .int, 0), (34, .putfield 23, 0), (37, .return_, 0)])]
theorem ik_X0_init : (i_X0_init).all (fun q => q.2.all (pm_ckI cX0_init)) = true := by decide +kernel
def i_X0_clearActs : List (Nat × List (Nat × Instr × Nat)) := [(1000000, [(0, .aload_n 0, 0), (1, .iconst 0, 0), (2, .putfield 26, 0), (5, .return_, 0)])]
theorem ik_X0_clearActs : (i_X0_clearActs).all (fun q => q.2.all (pm_ckI cX0_clearActs)) = true := by decide +kernel
def i_X0_clearNotes : List (Nat × List (Nat × Instr × Nat)) := [(1000000, [(0, .aload_n 0, 0), (1, .iconst 0, 0), (2, .putfield 30, 0), (5, .return_, 0)])]
theorem ik_X0_clearNotes : (i_X0_clearNotes).all (fun q => q.2.all (pm_ckI cX0_clearNotes)) = true := by decide +kernel
def i_X0_keep : List (Nat × List (Nat × Instr × Nat)) := [(21, [(0, .aload_n 1, 0), (1, .aload_n 0, 0), (2, .getfield 11, 0), (5, .aload_n 0, 0), (6, .getfield 33, 0), (9, .bipush 28, 0), (11, .imul, 0), (12, .invokevirtual 36, 0), (15, .aload_n 0, 0), (16, .aload_n 0, 0), (17, .getfield 33, 0), (20, .iconst 1, 0)]), (43, [(21, .iadd, 0), (22, .bipush 40, 0), (24, .irem, 0), (25, .putfield 33, 0), (28, .aload_n 0, 0), (29, .bipush 40, 0), (31, .aload_n 0, 0), (32, .getfield 26, 0), (35, .iconst 1, 0), (36, .iadd, 0), (37, .invokestatic 40, 0), (40, .putfield 26, 0)]), (1000000, [(43, .return_, 0)])]
theorem ik_X0_keep : (i_X0_keep).all (fun q => q.2.all (pm_ckI cX0_keep)) = true := by decide +kernel
def i_X0_takeBack : List (Nat × List (Nat × Instr × Nat)) := [(20, [(0, .aload_n 0, 0), (1, .getfield 26, 0), (4, .ifCond .le 44, 48), (7, .aload_n 0, 0), (8, .aload_n 0, 0), (9, .getfield 33, 0), (12, .bipush 40, 0), (14, .iadd, 0), (15, .iconst 1, 0), (16, .isub, 0), (17, .bipush 40, 0), (19, .irem, 0)]), (42, [(20, .putfield 33, 0), (23, .aload_n 0, 0), (24, .dup, 0), (25, .getfield 26, 0), (28, .iconst 1, 0), (29, .isub, 0), (30, .putfield 26, 0), (33, .aload_n 1, 0), (34, .aload_n 0, 0), (35, .getfield 11, 0), (38, .aload_n 0, 0), (39, .getfield 33, 0)]), (1000000, [(42, .bipush 28, 0), (44, .imul, 0), (45, .invokevirtual 46, 0), (48, .return_, 0)])]
theorem ik_X0_takeBack : (i_X0_takeBack).all (fun q => q.2.all (pm_ckI cX0_takeBack)) = true := by decide +kernel
def i_X0_add : List (Nat × List (Nat × Instr × Nat)) := [(23, [(0, .aload_n 0, 0), (1, .getfield 30, 0), (4, .bipush 8, 0), (6, .if_icmp .ge 43, 49), (9, .aload_n 0, 0), (10, .getfield 17, 0), (13, .aload_n 0, 0), (14, .getfield 30, 0), (17, .iload_n 1, 0), (18, .iastore, 0), (19, .aload_n 0, 0), (20, .getfield 20, 0)]), (41, [(23, .aload_n 0, 0), (24, .getfield 30, 0), (27, .iload_n 2, 0), (28, .iastore, 0), (29, .aload_n 0, 0), (30, .getfield 23, 0), (33, .aload_n 0, 0), (34, .getfield 30, 0), (37, .iload_n 3, 0), (38, .iastore, 0), (39, .aload_n 0, 0), (40, .dup, 0)]), (1000000, [(41, .getfield 30, 0), (44, .iconst 1, 0), (45, .iadd, 0), (46, .putfield 30, 0), (49, .return_, 0)])]
theorem ik_X0_add : (i_X0_add).all (fun q => q.2.all (pm_ckI cX0_add)) = true := by decide +kernel
def i_X0_copyFrom : List (Nat × List (Nat × Instr × Nat)) := [(24, [(0, .aload_n 1, 0), (1, .getfield 11, 0), (4, .iconst 0, 0), (5, .aload_n 0, 0), (6, .getfield 11, 0), (9, .iconst 0, 0), (10, .sipush 1120, 0), (13, .invokestatic 49, 0), (16, .aload_n 0, 0), (17, .aload_n 1, 0), (18, .getfield 33, 0), (21, .putfield 33, 0)]), (46, [(24, .aload_n 0, 0), (25, .aload_n 1, 0), (26, .getfield 26, 0), (29, .putfield 26, 0), (32, .aload_n 0, 0), (33, .aload_n 1, 0), (34, .getfield 30, 0), (37, .putfield 30, 0), (40, .aload_n 1, 0), (41, .getfield 17, 0), (44, .iconst 0, 0), (45, .aload_n 0, 0)]), (70, [(46, .getfield 17, 0), (49, .iconst 0, 0), (50, .bipush 8, 0), (52, .invokestatic 49, 0), (55, .aload_n 1, 0), (56, .getfield 20, 0), (59, .iconst 0, 0), (60, .aload_n 0, 0), (61, .getfield 20, 0), (64, .iconst 0, 0), (65, .bipush 8, 0), (67, .invokestatic 49, 0)]), (1000000, [(70, .aload_n 1, 0), (71, .getfield 23, 0), (74, .iconst 0, 0), (75, .aload_n 0, 0), (76, .getfield 23, 0), (79, .iconst 0, 0), (80, .bipush 8, 0), (82, .invokestatic 49, 0), (85, .return_, 0)])]
theorem ik_X0_copyFrom : (i_X0_copyFrom).all (fun q => q.2.all (pm_ckI cX0_copyFrom)) = true := by decide +kernel
def i_X0_agrees : List (Nat × List (Nat × Instr × Nat)) := [(20, [(0, .iconst 0, 0), (1, .istore_n 3, 0), (2, .iload_n 3, 0), (3, .aload_n 0, 0), (4, .getfield 30, 0), (7, .if_icmp .ge 41, 48), (10, .aload_n 0, 0), (11, .getfield 23, 0), (14, .iload_n 3, 0), (15, .iaload, 0), (16, .iload_n 2, 0), (17, .if_icmp .ne 25, 42)]), (40, [(20, .aload_n 1, 0), (21, .getfield 55, 0), (24, .aload_n 0, 0), (25, .getfield 17, 0), (28, .iload_n 3, 0), (29, .iaload, 0), (30, .iaload, 0), (31, .aload_n 0, 0), (32, .getfield 20, 0), (35, .iload_n 3, 0), (36, .iaload, 0), (37, .if_icmp .eq 5, 42)]), (1000000, [(40, .iconst 0, 0), (41, .ireturn, 0), (42, .iinc 3 1, 0), (45, .goto (-43), 2), (48, .iconst 1, 0), (49, .ireturn, 0)])]
theorem ik_X0_agrees : (i_X0_agrees).all (fun q => q.2.all (pm_ckI cX0_agrees)) = true := by decide +kernel
def i_X1_init : List (Nat × List (Nat × Instr × Nat)) := [(1000000, [(0, .aload_n 0, 0), (1, .invokespecial 3, 0), (4, .aload_n 0, 0), (5, .new 9, 0), (8, .dup, 0), (9, .invokespecial 11, 0), (12, .putfield 12, 0), (15, .aload_n 0, 0), (16, .bipush 8, 0), (18, .newarray .long, 0), (20, .putfield 18, 0), (23, .return_, 0)])]
theorem ik_X1_init : (i_X1_init).all (fun q => q.2.all (pm_ckI cX1_init)) = true := by decide +kernel
def i_X1_search : List (Nat × List (Nat × Instr × Nat)) := [(21, [(0, .aload_n 0, 0), (1, .iconst 0, 0), (2, .putfield 22, 0), (5, .aload_n 0, 0), (6, .iconst (-1), 0), (7, .putfield 26, 0), (10, .aload_n 0, 0), (11, .getfield 18, 0), (14, .lconst 0, 0), (15, .invokestatic 29, 0), (18, .iconst 0, 0), (19, .istore 5, 0)]), (45, [(21, .iload 5, 0), (23, .aload_n 1, 0), (24, .getfield 35, 0), (27, .if_icmp .ge 143, 170), (30, .iconst 0, 0), (31, .istore 6, 0), (33, .iload 6, 0), (35, .aload_n 1, 0), (36, .getfield 40, 0), (39, .iload 5, 0), (41, .iaload, 0), (42, .if_icmp .ge 122, 164)]), (69, [(45, .iload 6, 0), (47, .aload_n 2, 0), (48, .getfield 44, 0), (51, .iload 5, 0), (53, .iaload, 0), (54, .if_icmp .ne 6, 60), (57, .goto 101, 158), (60, .aload_n 0, 0), (61, .getfield 12, 0), (64, .aload_n 2, 0), (65, .invokevirtual 47, 0), (68, .aload_n 0, 0)]), (92, [(69, .getfield 12, 0), (72, .getfield 44, 0), (75, .iload 5, 0), (77, .iload 6, 0), (79, .iastore, 0), (80, .aload_n 0, 0), (81, .aload_n 1, 0), (82, .aload_n 0, 0), (83, .getfield 12, 0), (86, .aload_n 3, 0), (87, .aload 4, 0), (89, .invokevirtual 51, 0)]), (115, [(92, .ifCond .eq 66, 158), (95, .aload_n 0, 0), (96, .aload_n 0, 0), (97, .getfield 22, 0), (100, .ifCond .ne 14, 114), (103, .bipush 10, 0), (105, .iload 5, 0), (107, .imul, 0), (108, .iload 6, 0), (110, .iadd, 0), (111, .goto 7, 118), (114, .aload_n 0, 0)]), (139, [(115, .getfield 26, 0), (118, .putfield 26, 0), (121, .aload_n 0, 0), (122, .dup, 0), (123, .getfield 22, 0), (126, .iconst 1, 0), (127, .iadd, 0), (128, .putfield 22, 0), (131, .aload_n 0, 0), (132, .getfield 12, 0), (135, .aload_n 2, 0), (136, .invokevirtual 47, 0)]), (164, [(139, .aload_n 0, 0), (140, .getfield 12, 0), (143, .getfield 44, 0), (146, .iload 5, 0), (148, .iload 6, 0), (150, .iastore, 0), (151, .aload_n 0, 0), (152, .aload_n 1, 0), (153, .aload 4, 0), (155, .invokevirtual 55, 0), (158, .iinc 6 1, 0), (161, .goto (-128), 33)]), (1000000, [(164, .iinc 5 1, 0), (167, .goto (-146), 21), (170, .return_, 0)])]
theorem ik_X1_search : (i_X1_search).all (fun q => q.2.all (pm_ckI cX1_search)) = true := by decide +kernel
def i_X1_holdsAll : List (Nat × List (Nat × Instr × Nat)) := [(22, [(0, .iconst 0, 0), (1, .istore 5, 0), (3, .iload 5, 0), (5, .bipush 20, 0), (7, .if_icmp .gt 36, 43), (10, .aload_n 3, 0), (11, .aload_n 2, 0), (12, .iload 5, 0), (14, .invokevirtual 59, 0), (17, .ifCond .ne 5, 22), (20, .iconst 0, 0), (21, .ireturn, 0)]), (1000000, [(22, .aload 4, 0), (24, .aload_n 1, 0), (25, .aload_n 2, 0), (26, .aload_n 1, 0), (27, .aload_n 2, 0), (28, .getfield 65, 0), (31, .invokevirtual 68, 0), (34, .invokevirtual 72, 0), (37, .iinc 5 1, 0), (40, .goto (-37), 3), (43, .iconst 1, 0), (44, .ireturn, 0)])]
theorem ik_X1_holdsAll : (i_X1_holdsAll).all (fun q => q.2.all (pm_ckI cX1_holdsAll)) = true := by decide +kernel
def i_X1_addPlaces : List (Nat × List (Nat × Instr × Nat)) := [(20, [(0, .aload_n 2, 0), (1, .aload_n 1, 0), (2, .aload_n 0, 0), (3, .getfield 12, 0), (6, .iconst 5, 0), (7, .invokevirtual 78, 0), (10, .iconst 0, 0), (11, .istore_n 3, 0), (12, .iload_n 3, 0), (13, .aload_n 1, 0), (14, .getfield 35, 0), (17, .if_icmp .ge 33, 50)]), (40, [(20, .aload_n 0, 0), (21, .getfield 18, 0), (24, .iload_n 3, 0), (25, .aload_n 0, 0), (26, .getfield 18, 0), (29, .iload_n 3, 0), (30, .laload, 0), (31, .lconst 1, 0), (32, .aload_n 0, 0), (33, .getfield 12, 0), (36, .getfield 82, 0), (39, .iload_n 3, 0)]), (1000000, [(40, .iaload, 0), (41, .lshl, 0), (42, .lor, 0), (43, .lastore, 0), (44, .iinc 3 1, 0), (47, .goto (-35), 12), (50, .return_, 0)])]
theorem ik_X1_addPlaces : (i_X1_addPlaces).all (fun q => q.2.all (pm_ckI cX1_addPlaces)) = true := by decide +kernel
def i_X2_init : List (Nat × List (Nat × Instr × Nat)) := [(1000000, [(0, .aload_n 0, 0), (1, .invokespecial 3, 0), (4, .aload_n 0, 0), (5, .bipush 6, 0), (7, .newarray .int, 0), (9, .putfield 9, 0), (12, .return_, 0)])]
theorem ik_X2_init : (i_X2_init).all (fun q => q.2.all (pm_ckI cX2_init)) = true := by decide +kernel
def i_X2_passHours : List (Nat × List (Nat × Instr × Nat)) := [(20, [(0, .iconst 0, 0), (1, .istore 4, 0), (3, .iload 4, 0), (5, .iload_n 3, 0), (6, .if_icmp .ge 23, 29), (9, .aload_n 0, 0), (10, .aload_n 1, 0), (11, .aload_n 2, 0), (12, .aload_n 1, 0), (13, .aload_n 2, 0), (14, .getfield 15, 0), (17, .invokevirtual 21, 0)]), (1000000, [(20, .invokevirtual 27, 0), (23, .iinc 4 1, 0), (26, .goto (-23), 3), (29, .return_, 0)])]
theorem ik_X2_passHours : (i_X2_passHours).all (fun q => q.2.all (pm_ckI cX2_passHours)) = true := by decide +kernel
def i_X2_passHour : List (Nat × List (Nat × Instr × Nat)) := [(23, [(0, .iconst 0, 0), (1, .istore 4, 0), (3, .iload 4, 0), (5, .aload_n 1, 0), (6, .getfield 31, 0), (9, .if_icmp .ge 53, 62), (12, .aload_n 2, 0), (13, .getfield 34, 0), (16, .iload 4, 0), (18, .iaload, 0), (19, .ifCond .le 18, 37), (22, .iload_n 3, 0)]), (45, [(23, .ifCond .ne 14, 37), (26, .aload_n 0, 0), (27, .aload_n 1, 0), (28, .aload_n 2, 0), (29, .iload 4, 0), (31, .invokevirtual 37, 0), (34, .goto 22, 56), (37, .aload_n 0, 0), (38, .aload_n 1, 0), (39, .aload_n 2, 0), (40, .iload 4, 0), (42, .invokevirtual 41, 0)]), (68, [(45, .ifCond .eq 11, 56), (48, .aload_n 0, 0), (49, .aload_n 1, 0), (50, .aload_n 2, 0), (51, .iload 4, 0), (53, .invokevirtual 45, 0), (56, .iinc 4 1, 0), (59, .goto (-56), 3), (62, .iconst 0, 0), (63, .istore 4, 0), (65, .iload 4, 0), (67, .aload_n 1, 0)]), (90, [(68, .getfield 31, 0), (71, .if_icmp .ge 29, 100), (74, .aload_n 2, 0), (75, .getfield 34, 0), (78, .iload 4, 0), (80, .iconst 0, 0), (81, .aload_n 2, 0), (82, .getfield 34, 0), (85, .iload 4, 0), (87, .iaload, 0), (88, .iconst 1, 0), (89, .isub, 0)]), (1000000, [(90, .invokestatic 48, 0), (93, .iastore, 0), (94, .iinc 4 1, 0), (97, .goto (-32), 65), (100, .aload_n 2, 0), (101, .dup, 0), (102, .getfield 15, 0), (105, .iconst 1, 0), (106, .iadd, 0), (107, .putfield 15, 0), (110, .return_, 0)])]
theorem ik_X2_passHour : (i_X2_passHour).all (fun q => q.2.all (pm_ckI cX2_passHour)) = true := by decide +kernel
def i_X2_hurt : List (Nat × List (Nat × Instr × Nat)) := [(21, [(0, .iconst 1, 0), (1, .istore 4, 0), (3, .aload_n 1, 0), (4, .getfield 54, 0), (7, .invokevirtual 58, 0), (10, .ifCond .eq 32, 42), (13, .aload_n 0, 0), (14, .aload_n 1, 0), (15, .aload_n 2, 0), (16, .iload_n 3, 0), (17, .invokevirtual 64, 0), (20, .iconst 0, 0)]), (47, [(21, .bipush 9, 0), (23, .aload_n 1, 0), (24, .getfield 54, 0), (27, .aload_n 0, 0), (28, .getfield 9, 0), (31, .invokevirtual 67, 0), (34, .invokestatic 71, 0), (37, .invokestatic 48, 0), (40, .istore 4, 0), (42, .aload_n 2, 0), (43, .getfield 74, 0), (46, .iload_n 3, 0)]), (1000000, [(47, .bipush 99, 0), (49, .aload_n 2, 0), (50, .getfield 74, 0), (53, .iload_n 3, 0), (54, .iaload, 0), (55, .iload 4, 0), (57, .iadd, 0), (58, .invokestatic 71, 0), (61, .iastore, 0), (62, .return_, 0)])]
theorem ik_X2_hurt : (i_X2_hurt).all (fun q => q.2.all (pm_ckI cX2_hurt)) = true := by decide +kernel
def i_X2_wantsToGo : List (Nat × List (Nat × Instr × Nat)) := [(25, [(0, .aload_n 1, 0), (1, .getfield 77, 0), (4, .invokevirtual 58, 0), (7, .ifCond .ne 20, 27), (10, .aload_n 2, 0), (11, .getfield 74, 0), (14, .iload_n 3, 0), (15, .iaload, 0), (16, .bipush 10, 0), (18, .if_icmp .ge 7, 25), (21, .iconst 1, 0), (22, .goto 4, 26)]), (45, [(25, .iconst 0, 0), (26, .ireturn, 0), (27, .aload_n 0, 0), (28, .aload_n 1, 0), (29, .aload_n 2, 0), (30, .iload_n 3, 0), (31, .invokevirtual 64, 0), (34, .aload_n 1, 0), (35, .getfield 77, 0), (38, .aload_n 0, 0), (39, .getfield 9, 0), (42, .invokevirtual 67, 0)]), (1000000, [(45, .ifCond .le 7, 52), (48, .iconst 1, 0), (49, .goto 4, 53), (52, .iconst 0, 0), (53, .ireturn, 0)])]
theorem ik_X2_wantsToGo : (i_X2_wantsToGo).all (fun q => q.2.all (pm_ckI cX2_wantsToGo)) = true := by decide +kernel
def i_X2_go : List (Nat × List (Nat × Instr × Nat)) := [(18, [(0, .aload_n 1, 0), (1, .aload_n 2, 0), (2, .getfield 80, 0), (5, .iload_n 3, 0), (6, .iaload, 0), (7, .aload_n 1, 0), (8, .iload_n 3, 0), (9, .aload_n 2, 0), (10, .getfield 15, 0), (13, .aload_n 2, 0), (14, .getfield 83, 0), (17, .iload_n 3, 0)]), (43, [(18, .iaload, 0), (19, .iadd, 0), (20, .invokevirtual 86, 0), (23, .invokevirtual 89, 0), (26, .istore 4, 0), (28, .iload 4, 0), (30, .iconst (-1), 0), (31, .if_icmp .eq 20, 51), (34, .aload_n 2, 0), (35, .iload 4, 0), (37, .invokevirtual 92, 0), (40, .ifCond .ne 11, 51)]), (1000000, [(43, .aload_n 2, 0), (44, .getfield 80, 0), (47, .iload_n 3, 0), (48, .iload 4, 0), (50, .iastore, 0), (51, .return_, 0)])]
theorem ik_X2_go : (i_X2_go).all (fun q => q.2.all (pm_ckI cX2_go)) = true := by decide +kernel
def i_X2_setValues : List (Nat × List (Nat × Instr × Nat)) := [(18, [(0, .aload_n 0, 0), (1, .getfield 9, 0), (4, .iconst 0, 0), (5, .aload_n 2, 0), (6, .getfield 74, 0), (9, .iload_n 3, 0), (10, .iaload, 0), (11, .iastore, 0), (12, .aload_n 0, 0), (13, .getfield 9, 0), (16, .iconst 1, 0), (17, .aload_n 1, 0)]), (38, [(18, .aload_n 2, 0), (19, .getfield 15, 0), (22, .invokevirtual 95, 0), (25, .iastore, 0), (26, .aload_n 0, 0), (27, .getfield 9, 0), (30, .iconst 2, 0), (31, .aload_n 2, 0), (32, .iload_n 3, 0), (33, .invokevirtual 99, 0), (36, .iastore, 0), (37, .aload_n 0, 0)]), (58, [(38, .getfield 9, 0), (41, .iconst 3, 0), (42, .aload_n 2, 0), (43, .getfield 15, 0), (46, .iastore, 0), (47, .aload_n 0, 0), (48, .getfield 9, 0), (51, .iconst 4, 0), (52, .aload_n 1, 0), (53, .iload_n 3, 0), (54, .aload_n 2, 0), (55, .getfield 15, 0)]), (78, [(58, .aload_n 2, 0), (59, .getfield 83, 0), (62, .iload_n 3, 0), (63, .iaload, 0), (64, .iadd, 0), (65, .invokevirtual 86, 0), (68, .iastore, 0), (69, .aload_n 0, 0), (70, .getfield 9, 0), (73, .iconst 5, 0), (74, .aload_n 2, 0), (75, .getfield 34, 0)]), (1000000, [(78, .iload_n 3, 0), (79, .iaload, 0), (80, .iastore, 0), (81, .return_, 0)])]
theorem ik_X2_setValues : (i_X2_setValues).all (fun q => q.2.all (pm_ckI cX2_setValues)) = true := by decide +kernel
def i_X3_init : List (Nat × List (Nat × Instr × Nat)) := [(23, [(0, .aload_n 0, 0), (1, .invokespecial 3, 0), (4, .aload_n 0, 0), (5, .bipush 8, 0), (7, .newarray .int, 0), (9, .putfield 9, 0), (12, .aload_n 0, 0), (13, .bipush 8, 0), (15, .newarray .int, 0), (17, .putfield 15, 0), (20, .aload_n 0, 0), (21, .bipush 64, 0)]), (48, [(23, .newarray .int, 0), (25, .putfield 18, 0), (28, .aload_n 0, 0), (29, .bipush 8, 0), (31, .newarray .int, 0), (33, .putfield 21, 0), (36, .aload_n 0, 0), (37, .bipush 8, 0), (39, .newarray .int, 0), (41, .putfield 24, 0), (44, .aload_n 0, 0), (45, .new 27, 0)]), (1000000, [(48, .dup, 0), (49, .invokespecial 29, 0), (52, .putfield 30, 0), (55, .aload_n 0, 0), (56, .new 27, 0), (59, .dup, 0), (60, .invokespecial 29, 0), (63, .putfield 34, 0), (66, .return_, 0)])]
theorem ik_X3_init : (i_X3_init).all (fun q => q.2.all (pm_ckI cX3_init)) = true := by decide +kernel
def i_X3_clear : List (Nat × List (Nat × Instr × Nat)) := [(20, [(0, .aload_n 0, 0), (1, .iconst 5, 0), (2, .putfield 37, 0), (5, .aload_n 0, 0), (6, .iconst 4, 0), (7, .putfield 41, 0), (10, .aload_n 0, 0), (11, .lconst 0, 0), (12, .putfield 44, 0), (15, .aload_n 0, 0), (16, .iconst 0, 0), (17, .putfield 48, 0)]), (40, [(20, .aload_n 0, 0), (21, .iconst 0, 0), (22, .putfield 51, 0), (25, .aload_n 0, 0), (26, .iconst 0, 0), (27, .putfield 54, 0), (30, .aload_n 0, 0), (31, .iconst 0, 0), (32, .putfield 57, 0), (35, .aload_n 0, 0), (36, .iconst 3, 0), (37, .putfield 61, 0)]), (1000000, [(40, .aload_n 0, 0), (41, .getfield 30, 0), (44, .invokevirtual 64, 0), (47, .aload_n 0, 0), (48, .getfield 34, 0), (51, .invokevirtual 64, 0), (54, .return_, 0)])]
theorem ik_X3_clear : (i_X3_clear).all (fun q => q.2.all (pm_ckI cX3_clear)) = true := by decide +kernel
def i_X3_cells : List (Nat × List (Nat × Instr × Nat)) := [(1000000, [(0, .aload_n 0, 0), (1, .getfield 37, 0), (4, .aload_n 0, 0), (5, .getfield 41, 0), (8, .imul, 0), (9, .ireturn, 0)])]
theorem ik_X3_cells : (i_X3_cells).all (fun q => q.2.all (pm_ckI cX3_cells)) = true := by decide +kernel
def i_X3_lightOf : List (Nat × List (Nat × Instr × Nat)) := [(22, [(0, .aload_n 0, 0), (1, .getfield 54, 0), (4, .ifCond .le 17, 21), (7, .aload_n 0, 0), (8, .getfield 24, 0), (11, .iload_n 1, 0), (12, .aload_n 0, 0), (13, .getfield 54, 0), (16, .irem, 0), (17, .iaload, 0), (18, .goto 4, 22), (21, .iconst 5, 0)]), (1000000, [(22, .ireturn, 0)])]
theorem ik_X3_lightOf : (i_X3_lightOf).all (fun q => q.2.all (pm_ckI cX3_lightOf)) = true := by decide +kernel
def i_X3_isDull : List (Nat × List (Nat × Instr × Nat)) := [(1000000, [(0, .aload_n 0, 0), (1, .iload_n 1, 0), (2, .invokevirtual 67, 0), (5, .aload_n 0, 0), (6, .getfield 61, 0), (9, .if_icmp .ge 7, 16), (12, .iconst 1, 0), (13, .goto 4, 17), (16, .iconst 0, 0), (17, .ireturn, 0)])]
theorem ik_X3_isDull : (i_X3_isDull).all (fun q => q.2.all (pm_ckI cX3_isDull)) = true := by decide +kernel
def i_X3_stepOf : List (Nat × List (Nat × Instr × Nat)) := [(19, [(0, .aload_n 0, 0), (1, .getfield 15, 0), (4, .iload_n 1, 0), (5, .iaload, 0), (6, .istore_n 3, 0), (7, .iload_n 3, 0), (8, .ifCond .le 19, 27), (11, .aload_n 0, 0), (12, .getfield 18, 0), (15, .iload_n 1, 0), (16, .bipush 8, 0), (18, .imul, 0)]), (1000000, [(19, .iload_n 2, 0), (20, .iload_n 3, 0), (21, .irem, 0), (22, .iadd, 0), (23, .iaload, 0), (24, .goto 4, 28), (27, .iconst 0, 0), (28, .ireturn, 0)])]
theorem ik_X3_stepOf : (i_X3_stepOf).all (fun q => q.2.all (pm_ckI cX3_stepOf)) = true := by decide +kernel
def i_X3_seatsAt : List (Nat × List (Nat × Instr × Nat)) := [(18, [(0, .iconst 0, 0), (1, .istore_n 2, 0), (2, .iconst 0, 0), (3, .istore_n 3, 0), (4, .iload_n 3, 0), (5, .aload_n 0, 0), (6, .getfield 51, 0), (9, .if_icmp .ge 25, 34), (12, .aload_n 0, 0), (13, .getfield 21, 0), (16, .iload_n 3, 0), (17, .iaload, 0)]), (1000000, [(18, .iload_n 1, 0), (19, .if_icmp .ne 9, 28), (22, .iload_n 2, 0), (23, .iconst 1, 0), (24, .iload_n 3, 0), (25, .ishl, 0), (26, .ior, 0), (27, .istore_n 2, 0), (28, .iinc 3 1, 0), (31, .goto (-27), 4), (34, .iload_n 2, 0), (35, .ireturn, 0)])]
theorem ik_X3_seatsAt : (i_X3_seatsAt).all (fun q => q.2.all (pm_ckI cX3_seatsAt)) = true := by decide +kernel
def i_X3_isWall : List (Nat × List (Nat × Instr × Nat)) := [(18, [(0, .aload_n 0, 0), (1, .getfield 44, 0), (4, .iload_n 1, 0), (5, .lushr, 0), (6, .lconst 1, 0), (7, .land, 0), (8, .lconst 0, 0), (9, .lcmp, 0), (10, .ifCond .eq 7, 17), (13, .iconst 1, 0), (14, .goto 4, 18), (17, .iconst 0, 0)]), (1000000, [(18, .ireturn, 0)])]
theorem ik_X3_isWall : (i_X3_isWall).all (fun q => q.2.all (pm_ckI cX3_isWall)) = true := by decide +kernel
def i_X3_isStart : List (Nat × List (Nat × Instr × Nat)) := [(20, [(0, .iconst 0, 0), (1, .istore_n 2, 0), (2, .iload_n 2, 0), (3, .aload_n 0, 0), (4, .getfield 48, 0), (7, .if_icmp .ge 21, 28), (10, .aload_n 0, 0), (11, .getfield 9, 0), (14, .iload_n 2, 0), (15, .iaload, 0), (16, .iload_n 1, 0), (17, .if_icmp .ne 5, 22)]), (1000000, [(20, .iconst 1, 0), (21, .ireturn, 0), (22, .iinc 2 1, 0), (25, .goto (-23), 2), (28, .iconst 0, 0), (29, .ireturn, 0)])]
theorem ik_X3_isStart : (i_X3_isStart).all (fun q => q.2.all (pm_ckI cX3_isStart)) = true := by decide +kernel
def i_X3_beside : List (Nat × List (Nat × Instr × Nat)) := [(48, [(0, .aload_n 0, 0), (1, .getfield 37, 0), (4, .ifCond .le 12, 16), (7, .iload_n 1, 0), (8, .aload_n 0, 0), (9, .getfield 37, 0), (12, .irem, 0), (13, .goto 4, 17), (16, .iconst 0, 0), (17, .istore_n 3, 0), (18, .iload_n 2, 0), (19, .tableswitch 92 0 3 #[29, 31, 50, 68], 0)]), (68, [(48, .iload_n 1, 0), (49, .ireturn, 0), (50, .iload_n 1, 0), (51, .aload_n 0, 0), (52, .getfield 37, 0), (55, .if_icmp .lt 12, 67), (58, .iload_n 1, 0), (59, .aload_n 0, 0), (60, .getfield 37, 0), (63, .isub, 0), (64, .goto 4, 68), (67, .iconst (-1), 0)]), (86, [(68, .ireturn, 0), (69, .iload_n 3, 0), (70, .iconst 1, 0), (71, .iadd, 0), (72, .aload_n 0, 0), (73, .getfield 37, 0), (76, .if_icmp .ge 9, 85), (79, .iload_n 1, 0), (80, .iconst 1, 0), (81, .iadd, 0), (82, .goto 4, 86), (85, .iconst (-1), 0)]), (106, [(86, .ireturn, 0), (87, .iload_n 1, 0), (88, .aload_n 0, 0), (89, .getfield 37, 0), (92, .iadd, 0), (93, .aload_n 0, 0), (94, .invokevirtual 71, 0), (97, .if_icmp .ge 12, 109), (100, .iload_n 1, 0), (101, .aload_n 0, 0), (102, .getfield 37, 0), (105, .iadd, 0)]), (1000000, [(106, .goto 4, 110), (109, .iconst (-1), 0), (110, .ireturn, 0), (111, .iload_n 3, 0), (112, .ifCond .le 9, 121), (115, .iload_n 1, 0), (116, .iconst 1, 0), (117, .isub, 0), (118, .goto 4, 122), (121, .iconst (-1), 0), (122, .ireturn, 0)])]
theorem ik_X3_beside : (i_X3_beside).all (fun q => q.2.all (pm_ckI cX3_beside)) = true := by decide +kernel
def i_X4_init : List (Nat × List (Nat × Instr × Nat)) := [(1000000, [(0, .aload_n 0, 0), (1, .invokespecial 3, 0), (4, .aload_n 0, 0), (5, .new 9, 0), (8, .dup, 0), (9, .invokespecial 11, 0), (12, .putfield 12, 0), (15, .return_, 0)])]
theorem ik_X4_init : (i_X4_init).all (fun q => q.2.all (pm_ckI cX4_init)) = true := by decide +kernel
def i_X4_read : List (Nat × List (Nat × Instr × Nat)) := [(21, [(0, .aload_n 3, 0), (1, .invokevirtual 18, 0), (4, .aload_n 1, 0), (5, .iload_n 2, 0), (6, .invokevirtual 23, 0), (9, .aload_n 1, 0), (10, .ldc 29, 0), (12, .invokevirtual 31, 0), (15, .ifCond .eq 12, 27), (18, .aload_n 0, 0), (19, .aload_n 1, 0), (20, .aload_n 3, 0)]), (47, [(21, .invokevirtual 35, 0), (24, .goto 4, 28), (27, .iconst 0, 0), (28, .istore 4, 0), (30, .iconst 0, 0), (31, .istore 5, 0), (33, .iload 5, 0), (35, .sipush 700, 0), (38, .if_icmp .ge 40, 78), (41, .iload 4, 0), (43, .ifCond .ne 35, 78), (46, .aload_n 1, 0)]), (72, [(47, .getfield 39, 0), (50, .ifCond .eq 28, 78), (53, .aload_n 0, 0), (54, .aload_n 1, 0), (55, .aload_n 3, 0), (56, .invokevirtual 43, 0), (59, .istore 4, 0), (61, .iload 4, 0), (63, .ifCond .ne 9, 72), (66, .aload_n 1, 0), (67, .invokestatic 46, 0), (70, .istore 4, 0)]), (1000000, [(72, .iinc 5 1, 0), (75, .goto (-42), 33), (78, .iload 4, 0), (80, .ireturn, 0)])]
theorem ik_X4_read : (i_X4_read).all (fun q => q.2.all (pm_ckI cX4_read)) = true := by decide +kernel
def i_X4_readTable : List (Nat × List (Nat × Instr × Nat)) := [(20, [(0, .aload_n 1, 0), (1, .invokevirtual 50, 0), (4, .aload_n 1, 0), (5, .invokestatic 53, 0), (8, .istore_n 3, 0), (9, .iload_n 3, 0), (10, .ifCond .eq 5, 15), (13, .iload_n 3, 0), (14, .ireturn, 0), (15, .aload_n 2, 0), (16, .aload_n 1, 0), (17, .getfield 56, 0)]), (40, [(20, .putfield 59, 0), (23, .aload_n 1, 0), (24, .invokevirtual 50, 0), (27, .aload_n 1, 0), (28, .invokestatic 53, 0), (31, .istore_n 3, 0), (32, .iload_n 3, 0), (33, .ifCond .eq 5, 38), (36, .iload_n 3, 0), (37, .ireturn, 0), (38, .aload_n 2, 0), (39, .aload_n 1, 0)]), (1000000, [(40, .getfield 56, 0), (43, .putfield 62, 0), (46, .aload_n 1, 0), (47, .invokevirtual 50, 0), (50, .aload_n 1, 0), (51, .invokestatic 46, 0), (54, .ireturn, 0)])]
theorem ik_X4_readTable : (i_X4_readTable).all (fun q => q.2.all (pm_ckI cX4_readTable)) = true := by decide +kernel
def i_X4_sideFault : List (Nat × List (Nat × Instr × Nat)) := [(23, [(0, .aload_n 0, 0), (1, .getfield 39, 0), (4, .iconst 2, 0), (5, .if_icmp .eq 5, 10), (8, .iconst 1, 0), (9, .ireturn, 0), (10, .aload_n 0, 0), (11, .bipush 6, 0), (13, .invokevirtual 65, 0), (16, .ifCond .eq 15, 31), (19, .aload_n 0, 0), (20, .getfield 56, 0)]), (1000000, [(23, .iconst 2, 0), (24, .if_icmp .lt 7, 31), (27, .iconst 0, 0), (28, .goto 4, 32), (31, .iconst 2, 0), (32, .ireturn, 0)])]
theorem ik_X4_sideFault : (i_X4_sideFault).all (fun q => q.2.all (pm_ckI cX4_sideFault)) = true := by decide +kernel
def i_X4_readStop : List (Nat × List (Nat × Instr × Nat)) := [(1000000, [(0, .aload_n 0, 0), (1, .bipush 59, 0), (3, .invokevirtual 69, 0), (6, .ifCond .ne 5, 11), (9, .iconst 1, 0), (10, .ireturn, 0), (11, .aload_n 0, 0), (12, .invokevirtual 50, 0), (15, .iconst 0, 0), (16, .ireturn, 0)])]
theorem ik_X4_readStop : (i_X4_readStop).all (fun q => q.2.all (pm_ckI cX4_readStop)) = true := by decide +kernel
def i_X4_readLine : List (Nat × List (Nat × Instr × Nat)) := [(24, [(0, .aload_n 1, 0), (1, .ldc 73, 0), (3, .invokevirtual 31, 0), (6, .ifCond .eq 9, 15), (9, .aload_n 1, 0), (10, .aload_n 2, 0), (11, .invokestatic 75, 0), (14, .ireturn, 0), (15, .aload_n 1, 0), (16, .ldc 78, 0), (18, .invokevirtual 31, 0), (21, .ifCond .eq 10, 31)]), (45, [(24, .aload_n 0, 0), (25, .aload_n 1, 0), (26, .aload_n 2, 0), (27, .invokevirtual 80, 0), (30, .ireturn, 0), (31, .aload_n 1, 0), (32, .ldc 83, 0), (34, .invokevirtual 31, 0), (37, .ifCond .eq 9, 46), (40, .aload_n 1, 0), (41, .aload_n 2, 0), (42, .invokestatic 85, 0)]), (65, [(45, .ireturn, 0), (46, .aload_n 1, 0), (47, .ldc 88, 0), (49, .invokevirtual 31, 0), (52, .ifCond .eq 10, 62), (55, .aload_n 0, 0), (56, .aload_n 1, 0), (57, .aload_n 2, 0), (58, .invokevirtual 90, 0), (61, .ireturn, 0), (62, .aload_n 1, 0), (63, .ldc 93, 0)]), (90, [(65, .invokevirtual 31, 0), (68, .ifCond .eq 9, 77), (71, .aload_n 1, 0), (72, .aload_n 2, 0), (73, .invokestatic 95, 0), (76, .ireturn, 0), (77, .aload_n 1, 0), (78, .ldc 98, 0), (80, .invokevirtual 31, 0), (83, .ifCond .eq 17, 100), (86, .aload_n 0, 0), (87, .getfield 12, 0)]), (113, [(90, .aload_n 1, 0), (91, .aload_n 2, 0), (92, .getfield 100, 0), (95, .iconst 0, 0), (96, .invokevirtual 103, 0), (99, .ireturn, 0), (100, .aload_n 1, 0), (101, .ldc 107, 0), (103, .invokevirtual 31, 0), (106, .ifCond .eq 17, 123), (109, .aload_n 0, 0), (110, .getfield 12, 0)]), (1000000, [(113, .aload_n 1, 0), (114, .aload_n 2, 0), (115, .getfield 109, 0), (118, .iconst 1, 0), (119, .invokevirtual 103, 0), (122, .ireturn, 0), (123, .iconst 1, 0), (124, .ireturn, 0)])]
theorem ik_X4_readLine : (i_X4_readLine).all (fun q => q.2.all (pm_ckI cX4_readLine)) = true := by decide +kernel
def i_X4_cellFault : List (Nat × List (Nat × Instr × Nat)) := [(22, [(0, .aload_n 0, 0), (1, .getfield 39, 0), (4, .iconst 2, 0), (5, .if_icmp .eq 5, 10), (8, .iconst 1, 0), (9, .ireturn, 0), (10, .aload_n 0, 0), (11, .getfield 56, 0), (14, .aload_n 1, 0), (15, .invokevirtual 111, 0), (18, .if_icmp .lt 5, 23), (21, .iconst 3, 0)]), (44, [(22, .ireturn, 0), (23, .aload_n 0, 0), (24, .invokevirtual 115, 0), (27, .ifCond .eq 5, 32), (30, .iconst 2, 0), (31, .ireturn, 0), (32, .aload_n 1, 0), (33, .aload_n 0, 0), (34, .getfield 56, 0), (37, .invokevirtual 119, 0), (40, .ifCond .eq 7, 47), (43, .iconst 4, 0)]), (1000000, [(44, .goto 4, 48), (47, .iconst 0, 0), (48, .ireturn, 0)])]
theorem ik_X4_cellFault : (i_X4_cellFault).all (fun q => q.2.all (pm_ckI cX4_cellFault)) = true := by decide +kernel
def i_X4_readWall : List (Nat × List (Nat × Instr × Nat)) := [(18, [(0, .aload_n 0, 0), (1, .invokevirtual 50, 0), (4, .aload_n 0, 0), (5, .aload_n 1, 0), (6, .invokestatic 122, 0), (9, .istore_n 2, 0), (10, .iload_n 2, 0), (11, .ifCond .eq 5, 16), (14, .iload_n 2, 0), (15, .ireturn, 0), (16, .aload_n 1, 0), (17, .aload_n 0, 0)]), (42, [(18, .getfield 56, 0), (21, .invokevirtual 125, 0), (24, .ifCond .ne 14, 38), (27, .aload_n 1, 0), (28, .aload_n 0, 0), (29, .getfield 56, 0), (32, .invokevirtual 128, 0), (35, .ifCond .eq 5, 40), (38, .iconst 4, 0), (39, .ireturn, 0), (40, .aload_n 1, 0), (41, .aload_n 1, 0)]), (1000000, [(42, .getfield 132, 0), (45, .lconst 1, 0), (46, .aload_n 0, 0), (47, .getfield 56, 0), (50, .lshl, 0), (51, .lor, 0), (52, .putfield 132, 0), (55, .aload_n 0, 0), (56, .invokevirtual 50, 0), (59, .iconst 0, 0), (60, .ireturn, 0)])]
theorem ik_X4_readWall : (i_X4_readWall).all (fun q => q.2.all (pm_ckI cX4_readWall)) = true := by decide +kernel
def i_X4_readFigure : List (Nat × List (Nat × Instr × Nat)) := [(21, [(0, .aload_n 2, 0), (1, .getfield 136, 0), (4, .bipush 8, 0), (6, .if_icmp .lt 5, 11), (9, .iconst 2, 0), (10, .ireturn, 0), (11, .aload_n 1, 0), (12, .invokevirtual 50, 0), (15, .aload_n 1, 0), (16, .aload_n 2, 0), (17, .invokestatic 122, 0), (20, .istore_n 3, 0)]), (43, [(21, .iload_n 3, 0), (22, .ifCond .eq 5, 27), (25, .iload_n 3, 0), (26, .ireturn, 0), (27, .aload_n 2, 0), (28, .getfield 136, 0), (31, .istore 4, 0), (33, .aload_n 2, 0), (34, .getfield 139, 0), (37, .iload 4, 0), (39, .aload_n 1, 0), (40, .getfield 56, 0)]), (63, [(43, .iastore, 0), (44, .aload_n 1, 0), (45, .invokevirtual 50, 0), (48, .aload_n 0, 0), (49, .aload_n 1, 0), (50, .aload_n 2, 0), (51, .getfield 143, 0), (54, .iload 4, 0), (56, .bipush 8, 0), (58, .imul, 0), (59, .iconst 4, 0), (60, .invokevirtual 146, 0)]), (82, [(63, .istore_n 3, 0), (64, .aload_n 2, 0), (65, .getfield 150, 0), (68, .iload 4, 0), (70, .aload_n 0, 0), (71, .getfield 153, 0), (74, .iastore, 0), (75, .aload_n 2, 0), (76, .dup, 0), (77, .getfield 136, 0), (80, .iconst 1, 0), (81, .iadd, 0)]), (1000000, [(82, .putfield 136, 0), (85, .iload_n 3, 0), (86, .ireturn, 0)])]
theorem ik_X4_readFigure : (i_X4_readFigure).all (fun q => q.2.all (pm_ckI cX4_readFigure)) = true := by decide +kernel
def i_X4_readSeat : List (Nat × List (Nat × Instr × Nat)) := [(21, [(0, .aload_n 1, 0), (1, .getfield 156, 0), (4, .bipush 8, 0), (6, .if_icmp .lt 5, 11), (9, .iconst 2, 0), (10, .ireturn, 0), (11, .aload_n 0, 0), (12, .invokevirtual 50, 0), (15, .aload_n 0, 0), (16, .aload_n 1, 0), (17, .invokestatic 122, 0), (20, .istore_n 2, 0)]), (41, [(21, .iload_n 2, 0), (22, .ifCond .eq 5, 27), (25, .iload_n 2, 0), (26, .ireturn, 0), (27, .aload_n 1, 0), (28, .getfield 159, 0), (31, .aload_n 1, 0), (32, .getfield 156, 0), (35, .aload_n 0, 0), (36, .getfield 56, 0), (39, .iastore, 0), (40, .aload_n 1, 0)]), (1000000, [(41, .dup, 0), (42, .getfield 156, 0), (45, .iconst 1, 0), (46, .iadd, 0), (47, .putfield 156, 0), (50, .aload_n 0, 0), (51, .invokevirtual 50, 0), (54, .iconst 0, 0), (55, .ireturn, 0)])]
theorem ik_X4_readSeat : (i_X4_readSeat).all (fun q => q.2.all (pm_ckI cX4_readSeat)) = true := by decide +kernel
def i_X4_readLight : List (Nat × List (Nat × Instr × Nat)) := [(20, [(0, .aload_n 2, 0), (1, .getfield 162, 0), (4, .ifCond .le 5, 9), (7, .iconst 5, 0), (8, .ireturn, 0), (9, .aload_n 1, 0), (10, .invokevirtual 50, 0), (13, .aload_n 0, 0), (14, .aload_n 1, 0), (15, .aload_n 2, 0), (16, .getfield 165, 0), (19, .iconst 0, 0)]), (1000000, [(20, .bipush 9, 0), (22, .invokevirtual 146, 0), (25, .istore_n 3, 0), (26, .aload_n 2, 0), (27, .aload_n 0, 0), (28, .getfield 153, 0), (31, .putfield 162, 0), (34, .iload_n 3, 0), (35, .ireturn, 0)])]
theorem ik_X4_readLight : (i_X4_readLight).all (fun q => q.2.all (pm_ckI cX4_readLight)) = true := by decide +kernel
def i_X4_readRow : List (Nat × List (Nat × Instr × Nat)) := [(23, [(0, .aload_n 0, 0), (1, .iconst 0, 0), (2, .putfield 153, 0), (5, .iconst 0, 0), (6, .istore 5, 0), (8, .iload 5, 0), (10, .bipush 8, 0), (12, .if_icmp .gt 68, 80), (15, .aload_n 1, 0), (16, .getfield 39, 0), (19, .iconst 2, 0), (20, .if_icmp .ne 60, 80)]), (45, [(23, .iload 5, 0), (25, .bipush 8, 0), (27, .if_icmp .eq 12, 39), (30, .aload_n 1, 0), (31, .iload 4, 0), (33, .invokevirtual 65, 0), (36, .ifCond .ne 5, 41), (39, .iconst 2, 0), (40, .ireturn, 0), (41, .iload_n 3, 0), (42, .iload 5, 0), (44, .iadd, 0)]), (62, [(45, .aload_n 2, 0), (46, .arraylength, 0), (47, .if_icmp .ge 13, 60), (50, .aload_n 2, 0), (51, .iload_n 3, 0), (52, .iload 5, 0), (54, .iadd, 0), (55, .aload_n 1, 0), (56, .getfield 56, 0), (59, .iastore, 0), (60, .aload_n 0, 0), (61, .dup, 0)]), (88, [(62, .getfield 153, 0), (65, .iconst 1, 0), (66, .iadd, 0), (67, .putfield 153, 0), (70, .aload_n 1, 0), (71, .invokevirtual 50, 0), (74, .iinc 5 1, 0), (77, .goto (-69), 8), (80, .aload_n 0, 0), (81, .getfield 153, 0), (84, .ifCond .le 7, 91), (87, .iconst 0, 0)]), (1000000, [(88, .goto 4, 92), (91, .iconst 1, 0), (92, .ireturn, 0)])]
theorem ik_X4_readRow : (i_X4_readRow).all (fun q => q.2.all (pm_ckI cX4_readRow)) = true := by decide +kernel
def i_X4_readDull : List (Nat × List (Nat × Instr × Nat)) := [(22, [(0, .aload_n 1, 0), (1, .getfield 167, 0), (4, .ifCond .eq 5, 9), (7, .iconst 5, 0), (8, .ireturn, 0), (9, .aload_n 0, 0), (10, .invokevirtual 50, 0), (13, .aload_n 0, 0), (14, .getfield 39, 0), (17, .iconst 2, 0), (18, .if_icmp .eq 5, 23), (21, .iconst 1, 0)]), (41, [(22, .ireturn, 0), (23, .aload_n 0, 0), (24, .bipush 9, 0), (26, .invokevirtual 65, 0), (29, .ifCond .ne 5, 34), (32, .iconst 2, 0), (33, .ireturn, 0), (34, .aload_n 1, 0), (35, .iconst 1, 0), (36, .putfield 167, 0), (39, .aload_n 1, 0), (40, .aload_n 0, 0)]), (1000000, [(41, .getfield 56, 0), (44, .putfield 171, 0), (47, .aload_n 0, 0), (48, .invokevirtual 50, 0), (51, .iconst 0, 0), (52, .ireturn, 0)])]
theorem ik_X4_readDull : (i_X4_readDull).all (fun q => q.2.all (pm_ckI cX4_readDull)) = true := by decide +kernel
def i_X5_init : List (Nat × List (Nat × Instr × Nat)) := [(1000000, [(0, .aload_n 0, 0), (1, .invokespecial 3, 0), (4, .aload_n 0, 0), (5, .bipush 48, 0), (7, .newarray .int, 0), (9, .putfield 9, 0), (12, .aload_n 0, 0), (13, .sipush 700, 0), (16, .newarray .int, 0), (18, .putfield 15, 0), (21, .return_, 0)])]
theorem ik_X5_init : (i_X5_init).all (fun q => q.2.all (pm_ckI cX5_init)) = true := by decide +kernel
def i_X5_clear : List (Nat × List (Nat × Instr × Nat)) := [(1000000, [(0, .aload_n 0, 0), (1, .iconst 0, 0), (2, .putfield 18, 0), (5, .return_, 0)])]
theorem ik_X5_clear : (i_X5_clear).all (fun q => q.2.all (pm_ckI cX5_clear)) = true := by decide +kernel
def i_X5_isTold : List (Nat × List (Nat × Instr × Nat)) := [(1000000, [(0, .aload_n 0, 0), (1, .getfield 18, 0), (4, .ifCond .le 7, 11), (7, .iconst 1, 0), (8, .goto 4, 12), (11, .iconst 0, 0), (12, .ireturn, 0)])]
theorem ik_X5_isTold : (i_X5_isTold).all (fun q => q.2.all (pm_ckI cX5_isTold)) = true := by decide +kernel
def i_X5_add : List (Nat × List (Nat × Instr × Nat)) := [(22, [(0, .aload_n 0, 0), (1, .getfield 18, 0), (4, .sipush 700, 0), (7, .if_icmp .ge 23, 30), (10, .aload_n 0, 0), (11, .getfield 15, 0), (14, .aload_n 0, 0), (15, .getfield 18, 0), (18, .iload_n 1, 0), (19, .iastore, 0), (20, .aload_n 0, 0), (21, .dup, 0)]), (1000000, [(22, .getfield 18, 0), (25, .iconst 1, 0), (26, .iadd, 0), (27, .putfield 18, 0), (30, .return_, 0)])]
theorem ik_X5_add : (i_X5_add).all (fun q => q.2.all (pm_ckI cX5_add)) = true := by decide +kernel
def i_X5_value : List (Nat × List (Nat × Instr × Nat)) := [(18, [(0, .iconst (-1), 0), (1, .istore_n 2, 0), (2, .iconst 0, 0), (3, .istore_n 3, 0), (4, .iload_n 3, 0), (5, .aload_n 0, 0), (6, .getfield 18, 0), (9, .if_icmp .ge 130, 139), (12, .aload_n 0, 0), (13, .getfield 15, 0), (16, .iload_n 3, 0), (17, .iaload, 0)]), (41, [(18, .istore 4, 0), (20, .iload 4, 0), (22, .bipush (-6), 0), (24, .if_icmp .lt 42, 66), (27, .iload_n 2, 0), (28, .iconst 1, 0), (29, .iadd, 0), (30, .aload_n 0, 0), (31, .getfield 9, 0), (34, .arraylength, 0), (35, .if_icmp .ge 98, 133), (38, .iinc 2 1, 0)]), (62, [(41, .aload_n 0, 0), (42, .getfield 9, 0), (45, .iload_n 2, 0), (46, .iload 4, 0), (48, .ifCond .lt 8, 56), (51, .iload 4, 0), (53, .goto 9, 62), (56, .aload_n 1, 0), (57, .iconst (-1), 0), (58, .iload 4, 0), (60, .isub, 0), (61, .iaload, 0)]), (86, [(62, .iastore, 0), (63, .goto 70, 133), (66, .iload 4, 0), (68, .bipush (-13), 0), (70, .if_icmp .ne 30, 100), (73, .iload_n 2, 0), (74, .ifCond .lt 59, 133), (77, .aload_n 0, 0), (78, .getfield 9, 0), (81, .iload_n 2, 0), (82, .aload_n 0, 0), (83, .getfield 9, 0)]), (108, [(86, .iload_n 2, 0), (87, .iaload, 0), (88, .ifCond .ne 7, 95), (91, .iconst 1, 0), (92, .goto 4, 96), (95, .iconst 0, 0), (96, .iastore, 0), (97, .goto 36, 133), (100, .iload_n 2, 0), (101, .iconst 1, 0), (102, .if_icmp .lt 31, 133), (105, .iinc 2 (-1), 0)]), (127, [(108, .aload_n 0, 0), (109, .getfield 9, 0), (112, .iload_n 2, 0), (113, .iload 4, 0), (115, .aload_n 0, 0), (116, .getfield 9, 0), (119, .iload_n 2, 0), (120, .iaload, 0), (121, .aload_n 0, 0), (122, .getfield 9, 0), (125, .iload_n 2, 0), (126, .iconst 1, 0)]), (149, [(127, .iadd, 0), (128, .iaload, 0), (129, .invokestatic 22, 0), (132, .iastore, 0), (133, .iinc 3 1, 0), (136, .goto (-132), 4), (139, .iload_n 2, 0), (140, .ifCond .lt 12, 152), (143, .aload_n 0, 0), (144, .getfield 9, 0), (147, .iload_n 2, 0), (148, .iaload, 0)]), (1000000, [(149, .goto 4, 153), (152, .iconst 0, 0), (153, .ireturn, 0)])]
theorem ik_X5_value : (i_X5_value).all (fun q => q.2.all (pm_ckI cX5_value)) = true := by decide +kernel
def i_X5_join : List (Nat × List (Nat × Instr × Nat)) := [(66, [(0, .iload_n 0, 0), (1, .tableswitch 109 (-18) (-11) #[105, 101, 97, 86, 75, 109, 61, 47], 0), (48, .iload_n 1, 0), (49, .ifCond .ne 7, 56), (52, .iload_n 2, 0), (53, .ifCond .eq 7, 60), (56, .iconst 1, 0), (57, .goto 4, 61), (60, .iconst 0, 0), (61, .ireturn, 0), (62, .iload_n 1, 0), (63, .ifCond .eq 11, 74)]), (86, [(66, .iload_n 2, 0), (67, .ifCond .eq 7, 74), (70, .iconst 1, 0), (71, .goto 4, 75), (74, .iconst 0, 0), (75, .ireturn, 0), (76, .iload_n 1, 0), (77, .iload_n 2, 0), (78, .if_icmp .ge 7, 85), (81, .iconst 1, 0), (82, .goto 4, 86), (85, .iconst 0, 0)]), (102, [(86, .ireturn, 0), (87, .iload_n 1, 0), (88, .iload_n 2, 0), (89, .if_icmp .ne 7, 96), (92, .iconst 1, 0), (93, .goto 4, 97), (96, .iconst 0, 0), (97, .ireturn, 0), (98, .iload_n 1, 0), (99, .iload_n 2, 0), (100, .iadd, 0), (101, .ireturn, 0)]), (118, [(102, .iload_n 1, 0), (103, .iload_n 2, 0), (104, .isub, 0), (105, .ireturn, 0), (106, .iload_n 1, 0), (107, .iload_n 2, 0), (108, .imul, 0), (109, .ireturn, 0), (110, .iload_n 2, 0), (111, .ifCond .ne 7, 118), (114, .iconst 0, 0), (115, .goto 6, 121)]), (1000000, [(118, .iload_n 1, 0), (119, .iload_n 2, 0), (120, .idiv, 0), (121, .ireturn, 0)])]
theorem ik_X5_join : (i_X5_join).all (fun q => q.2.all (pm_ckI cX5_join)) = true := by decide +kernel
def i_X6_init : List (Nat × List (Nat × Instr × Nat)) := [(1000000, [(0, .aload_n 0, 0), (1, .invokespecial 3, 0), (4, .aload_n 0, 0), (5, .sipush 128, 0), (8, .newarray .int, 0), (10, .putfield 9, 0), (13, .return_, 0)])]
theorem ik_X6_init : (i_X6_init).all (fun q => q.2.all (pm_ckI cX6_init)) = true := by decide +kernel
def i_X6_read : List (Nat × List (Nat × Instr × Nat)) := [(20, [(0, .aload_n 2, 0), (1, .invokevirtual 15, 0), (4, .ifCond .eq 5, 9), (7, .iconst 5, 0), (8, .ireturn, 0), (9, .aload_n 0, 0), (10, .iconst 0, 0), (11, .putfield 21, 0), (14, .aload_n 0, 0), (15, .iconst 0, 0), (16, .putfield 25, 0), (19, .aload_n 0, 0)]), (44, [(20, .iconst 1, 0), (21, .invokevirtual 28, 0), (24, .aload_n 1, 0), (25, .invokevirtual 32, 0), (28, .iconst 0, 0), (29, .istore 4, 0), (31, .iconst 0, 0), (32, .istore 5, 0), (34, .iload 5, 0), (36, .sipush 700, 0), (39, .if_icmp .ge 56, 95), (42, .iload 4, 0)]), (66, [(44, .ifCond .ne 51, 95), (47, .aload_n 0, 0), (48, .aload_n 1, 0), (49, .invokevirtual 37, 0), (52, .ifCond .ne 43, 95), (55, .aload_n 0, 0), (56, .getfield 41, 0), (59, .ifCond .eq 13, 72), (62, .aload_n 0, 0), (63, .aload_n 1, 0), (64, .aload_n 2, 0), (65, .iload_n 3, 0)]), (92, [(66, .invokevirtual 45, 0), (69, .goto 9, 78), (72, .aload_n 0, 0), (73, .aload_n 1, 0), (74, .aload_n 2, 0), (75, .invokevirtual 49, 0), (78, .istore 4, 0), (80, .iload 4, 0), (82, .ifCond .ne 7, 89), (85, .aload_n 1, 0), (86, .invokevirtual 32, 0), (89, .iinc 5 1, 0)]), (1000000, [(92, .goto (-58), 34), (95, .iload 4, 0), (97, .ifCond .ne 9, 106), (100, .aload_n 0, 0), (101, .aload_n 2, 0), (102, .iconst 0, 0), (103, .invokevirtual 53, 0), (106, .iload 4, 0), (108, .ireturn, 0)])]
theorem ik_X6_read : (i_X6_read).all (fun q => q.2.all (pm_ckI cX6_read)) = true := by decide +kernel
def i_X6_isEnd : List (Nat × List (Nat × Instr × Nat)) := [(27, [(0, .aload_n 0, 0), (1, .getfield 41, 0), (4, .ifCond .ne 23, 27), (7, .aload_n 0, 0), (8, .getfield 25, 0), (11, .ifCond .ne 16, 27), (14, .aload_n 1, 0), (15, .bipush 59, 0), (17, .invokevirtual 57, 0), (20, .ifCond .eq 7, 27), (23, .iconst 1, 0), (24, .goto 4, 28)]), (1000000, [(27, .iconst 0, 0), (28, .ireturn, 0)])]
theorem ik_X6_isEnd : (i_X6_isEnd).all (fun q => q.2.all (pm_ckI cX6_isEnd)) = true := by decide +kernel
def i_X6_beginPart : List (Nat × List (Nat × Instr × Nat)) := [(1000000, [(0, .aload_n 0, 0), (1, .iconst 1, 0), (2, .putfield 41, 0), (5, .aload_n 0, 0), (6, .iload_n 1, 0), (7, .putfield 61, 0), (10, .aload_n 0, 0), (11, .iconst 0, 0), (12, .putfield 64, 0), (15, .return_, 0)])]
theorem ik_X6_beginPart : (i_X6_beginPart).all (fun q => q.2.all (pm_ckI cX6_beginPart)) = true := by decide +kernel
def i_X6_readPart : List (Nat × List (Nat × Instr × Nat)) := [(25, [(0, .aload_n 1, 0), (1, .bipush 40, 0), (3, .invokevirtual 57, 0), (6, .istore 4, 0), (8, .iload 4, 0), (10, .ifCond .ne 21, 31), (13, .aload_n 1, 0), (14, .getfield 67, 0), (17, .iconst 2, 0), (18, .if_icmp .eq 13, 31), (21, .aload_n 1, 0), (22, .getfield 67, 0)]), (47, [(25, .iconst 1, 0), (26, .if_icmp .eq 5, 31), (29, .iconst 1, 0), (30, .ireturn, 0), (31, .aload_n 0, 0), (32, .getfield 25, 0), (35, .bipush 6, 0), (37, .if_icmp .lt 5, 42), (40, .iconst 2, 0), (41, .ireturn, 0), (42, .iload 4, 0), (44, .ifCond .eq 26, 70)]), (68, [(47, .aload_n 0, 0), (48, .bipush (-20), 0), (50, .invokevirtual 70, 0), (53, .aload_n 0, 0), (54, .dup, 0), (55, .getfield 25, 0), (58, .iconst 1, 0), (59, .iadd, 0), (60, .putfield 25, 0), (63, .aload_n 0, 0), (64, .iconst 1, 0), (65, .invokevirtual 28, 0)]), (88, [(68, .iconst 0, 0), (69, .ireturn, 0), (70, .aload_n 1, 0), (71, .getfield 67, 0), (74, .iconst 2, 0), (75, .if_icmp .ne 12, 87), (78, .aload_n 0, 0), (79, .aload_n 1, 0), (80, .aload_n 2, 0), (81, .invokevirtual 74, 0), (84, .goto 10, 94), (87, .aload_n 0, 0)]), (1000000, [(88, .aload_n 1, 0), (89, .aload_n 2, 0), (90, .iload_n 3, 0), (91, .invokevirtual 77, 0), (94, .ireturn, 0)])]
theorem ik_X6_readPart : (i_X6_readPart).all (fun q => q.2.all (pm_ckI cX6_readPart)) = true := by decide +kernel
def i_X6_readNumber : List (Nat × List (Nat × Instr × Nat)) := [(22, [(0, .aload_n 1, 0), (1, .invokevirtual 80, 0), (4, .ifCond .eq 5, 9), (7, .iconst 2, 0), (8, .ireturn, 0), (9, .aload_n 2, 0), (10, .aload_n 1, 0), (11, .getfield 83, 0), (14, .invokevirtual 86, 0), (17, .aload_n 0, 0), (18, .iconst 0, 0), (19, .putfield 41, 0)]), (1000000, [(22, .iconst 0, 0), (23, .ireturn, 0)])]
theorem ik_X6_readNumber : (i_X6_readNumber).all (fun q => q.2.all (pm_ckI cX6_readNumber)) = true := by decide +kernel
def i_X6_readWord : List (Nat × List (Nat × Instr × Nat)) := [(26, [(0, .aload_n 0, 0), (1, .getfield 61, 0), (4, .ifCond .eq 41, 45), (7, .aload_n 1, 0), (8, .ldc 89, 0), (10, .invokevirtual 91, 0), (13, .ifCond .eq 32, 45), (16, .aload_n 0, 0), (17, .getfield 64, 0), (20, .bipush 6, 0), (22, .if_icmp .lt 5, 27), (25, .iconst 2, 0)]), (45, [(26, .ireturn, 0), (27, .aload_n 0, 0), (28, .bipush (-13), 0), (30, .invokevirtual 70, 0), (33, .aload_n 0, 0), (34, .dup, 0), (35, .getfield 64, 0), (38, .iconst 1, 0), (39, .iadd, 0), (40, .putfield 64, 0), (43, .iconst 0, 0), (44, .ireturn, 0)]), (64, [(45, .aload_n 1, 0), (46, .iload_n 3, 0), (47, .invokestatic 95, 0), (50, .istore 4, 0), (52, .iload 4, 0), (54, .iconst (-1), 0), (55, .if_icmp .ne 5, 60), (58, .iconst 3, 0), (59, .ireturn, 0), (60, .aload_n 2, 0), (61, .iconst (-1), 0), (62, .iload 4, 0)]), (1000000, [(64, .isub, 0), (65, .invokevirtual 86, 0), (68, .aload_n 0, 0), (69, .iconst 0, 0), (70, .putfield 41, 0), (73, .iconst 0, 0), (74, .ireturn, 0)])]
theorem ik_X6_readWord : (i_X6_readWord).all (fun q => q.2.all (pm_ckI cX6_readWord)) = true := by decide +kernel
def i_X6_valueOf : List (Nat × List (Nat × Instr × Nat)) := [(22, [(0, .aload_n 0, 0), (1, .ldc 99, 0), (3, .invokevirtual 91, 0), (6, .ifCond .eq 5, 11), (9, .iconst 0, 0), (10, .ireturn, 0), (11, .aload_n 0, 0), (12, .ldc 101, 0), (14, .invokevirtual 91, 0), (17, .ifCond .eq 5, 22), (20, .iconst 1, 0), (21, .ireturn, 0)]), (44, [(22, .aload_n 0, 0), (23, .ldc 103, 0), (25, .invokevirtual 91, 0), (28, .ifCond .eq 5, 33), (31, .iconst 2, 0), (32, .ireturn, 0), (33, .aload_n 0, 0), (34, .ldc 105, 0), (36, .invokevirtual 91, 0), (39, .ifCond .eq 5, 44), (42, .iconst 3, 0), (43, .ireturn, 0)]), (66, [(44, .iload_n 1, 0), (45, .ifCond .ne 14, 59), (48, .aload_n 0, 0), (49, .ldc 107, 0), (51, .invokevirtual 91, 0), (54, .ifCond .eq 5, 59), (57, .iconst 4, 0), (58, .ireturn, 0), (59, .iload_n 1, 0), (60, .ifCond .eq 16, 76), (63, .aload_n 0, 0), (64, .ldc 109, 0)]), (1000000, [(66, .invokevirtual 91, 0), (69, .ifCond .eq 7, 76), (72, .iconst 5, 0), (73, .goto 4, 77), (76, .iconst (-1), 0), (77, .ireturn, 0)])]
theorem ik_X6_valueOf : (i_X6_valueOf).all (fun q => q.2.all (pm_ckI cX6_valueOf)) = true := by decide +kernel
def i_X6_readOperator : List (Nat × List (Nat × Instr × Nat)) := [(23, [(0, .aload_n 1, 0), (1, .bipush 41, 0), (3, .invokevirtual 57, 0), (6, .ifCond .eq 42, 48), (9, .aload_n 0, 0), (10, .getfield 25, 0), (13, .ifCond .le 35, 48), (16, .aload_n 0, 0), (17, .aload_n 2, 0), (18, .iconst 0, 0), (19, .invokevirtual 53, 0), (22, .aload_n 0, 0)]), (43, [(23, .iconst 0, 0), (24, .aload_n 0, 0), (25, .getfield 21, 0), (28, .iconst 1, 0), (29, .isub, 0), (30, .invokestatic 111, 0), (33, .putfield 21, 0), (36, .aload_n 0, 0), (37, .dup, 0), (38, .getfield 25, 0), (41, .iconst 1, 0), (42, .isub, 0)]), (61, [(43, .putfield 25, 0), (46, .iconst 0, 0), (47, .ireturn, 0), (48, .aload_n 1, 0), (49, .invokestatic 117, 0), (52, .istore_n 3, 0), (53, .iload_n 3, 0), (54, .iconst (-1), 0), (55, .if_icmp .ne 5, 60), (58, .iconst 1, 0), (59, .ireturn, 0), (60, .iload_n 3, 0)]), (85, [(61, .invokestatic 121, 0), (64, .istore 4, 0), (66, .iload 4, 0), (68, .bipush (-14), 0), (70, .invokestatic 121, 0), (73, .if_icmp .ne 7, 80), (76, .iconst 1, 0), (77, .goto 4, 81), (80, .iconst 0, 0), (81, .istore 5, 0), (83, .aload_n 0, 0), (84, .aload_n 2, 0)]), (111, [(85, .iload 5, 0), (87, .ifCond .eq 10, 97), (90, .iload 4, 0), (92, .iconst 1, 0), (93, .iadd, 0), (94, .goto 5, 99), (97, .iload 4, 0), (99, .invokevirtual 53, 0), (102, .iload 5, 0), (104, .ifCond .eq 31, 135), (107, .aload_n 0, 0), (108, .getfield 21, 0)]), (134, [(111, .ifCond .le 24, 135), (114, .aload_n 0, 0), (115, .getfield 9, 0), (118, .aload_n 0, 0), (119, .getfield 21, 0), (122, .iconst 1, 0), (123, .isub, 0), (124, .iaload, 0), (125, .invokestatic 121, 0), (128, .iload 4, 0), (130, .if_icmp .ne 5, 135), (133, .iconst 1, 0)]), (156, [(134, .ireturn, 0), (135, .aload_n 0, 0), (136, .iload_n 3, 0), (137, .invokevirtual 70, 0), (140, .aload_n 0, 0), (141, .iload 4, 0), (143, .bipush (-12), 0), (145, .invokestatic 121, 0), (148, .if_icmp .gt 7, 155), (151, .iconst 1, 0), (152, .goto 4, 156), (155, .iconst 0, 0)]), (1000000, [(156, .invokevirtual 28, 0), (159, .iconst 0, 0), (160, .ireturn, 0)])]
theorem ik_X6_readOperator : (i_X6_readOperator).all (fun q => q.2.all (pm_ckI cX6_readOperator)) = true := by decide +kernel
def i_X6_operatorOf : List (Nat × List (Nat × Instr × Nat)) := [(24, [(0, .aload_n 0, 0), (1, .ldc 125, 0), (3, .invokevirtual 91, 0), (6, .ifCond .eq 6, 12), (9, .bipush (-11), 0), (11, .ireturn, 0), (12, .aload_n 0, 0), (13, .ldc 127, 0), (15, .invokevirtual 91, 0), (18, .ifCond .eq 6, 24), (21, .bipush (-12), 0), (23, .ireturn, 0)]), (138, [(24, .aload_n 0, 0), (25, .invokevirtual 129, 0), (28, .tableswitch 114 42 61 #[108, 102, 114, 105, 114, 111, 114, 114, 114, 114, 114, 114, 114, 114, 114, 114, 114, 114, 96, 99], 0), (124, .bipush (-14), 0), (126, .ireturn, 0), (127, .bipush (-15), 0), (129, .ireturn, 0), (130, .bipush (-16), 0), (132, .ireturn, 0), (133, .bipush (-17), 0), (135, .ireturn, 0), (136, .bipush (-18), 0)]), (1000000, [(138, .ireturn, 0), (139, .bipush (-19), 0), (141, .ireturn, 0), (142, .iconst (-1), 0), (143, .ireturn, 0)])]
theorem ik_X6_operatorOf : (i_X6_operatorOf).all (fun q => q.2.all (pm_ckI cX6_operatorOf)) = true := by decide +kernel
def i_X6_rankOf : List (Nat × List (Nat × Instr × Nat)) := [(62, [(0, .iload_n 0, 0), (1, .tableswitch 64 (-19) (-11) #[61, 61, 59, 59, 57, 57, 55, 53, 51], 0), (52, .iconst 1, 0), (53, .ireturn, 0), (54, .iconst 2, 0), (55, .ireturn, 0), (56, .iconst 3, 0), (57, .ireturn, 0), (58, .iconst 4, 0), (59, .ireturn, 0), (60, .iconst 5, 0), (61, .ireturn, 0)]), (1000000, [(62, .bipush 6, 0), (64, .ireturn, 0), (65, .iconst (-1), 0), (66, .ireturn, 0)])]
theorem ik_X6_rankOf : (i_X6_rankOf).all (fun q => q.2.all (pm_ckI cX6_rankOf)) = true := by decide +kernel
def i_X6_push : List (Nat × List (Nat × Instr × Nat)) := [(22, [(0, .aload_n 0, 0), (1, .getfield 21, 0), (4, .aload_n 0, 0), (5, .getfield 9, 0), (8, .arraylength, 0), (9, .if_icmp .ge 23, 32), (12, .aload_n 0, 0), (13, .getfield 9, 0), (16, .aload_n 0, 0), (17, .getfield 21, 0), (20, .iload_n 1, 0), (21, .iastore, 0)]), (1000000, [(22, .aload_n 0, 0), (23, .dup, 0), (24, .getfield 21, 0), (27, .iconst 1, 0), (28, .iadd, 0), (29, .putfield 21, 0), (32, .return_, 0)])]
theorem ik_X6_push : (i_X6_push).all (fun q => q.2.all (pm_ckI cX6_push)) = true := by decide +kernel
def i_X6_release : List (Nat × List (Nat × Instr × Nat)) := [(22, [(0, .aload_n 0, 0), (1, .getfield 21, 0), (4, .ifCond .le 47, 51), (7, .aload_n 0, 0), (8, .getfield 9, 0), (11, .aload_n 0, 0), (12, .getfield 21, 0), (15, .iconst 1, 0), (16, .isub, 0), (17, .iaload, 0), (18, .invokestatic 121, 0), (21, .iload_n 2, 0)]), (44, [(22, .if_icmp .lt 29, 51), (25, .aload_n 0, 0), (26, .dup, 0), (27, .getfield 21, 0), (30, .iconst 1, 0), (31, .isub, 0), (32, .putfield 21, 0), (35, .aload_n 1, 0), (36, .aload_n 0, 0), (37, .getfield 9, 0), (40, .aload_n 0, 0), (41, .getfield 21, 0)]), (1000000, [(44, .iaload, 0), (45, .invokevirtual 86, 0), (48, .goto (-48), 0), (51, .return_, 0)])]
theorem ik_X6_release : (i_X6_release).all (fun q => q.2.all (pm_ckI cX6_release)) = true := by decide +kernel
def i_X7_init : List (Nat × List (Nat × Instr × Nat)) := [(24, [(0, .aload_n 0, 0), (1, .invokespecial 3, 0), (4, .aload_n 0, 0), (5, .bipush 64, 0), (7, .newarray .int, 0), (9, .putfield 9, 0), (12, .aload_n 0, 0), (13, .sipush 2304, 0), (16, .newarray .int, 0), (18, .putfield 15, 0), (21, .aload_n 0, 0), (22, .bipush 8, 0)]), (1000000, [(24, .newarray .int, 0), (26, .putfield 18, 0), (29, .return_, 0)])]
theorem ik_X7_init : (i_X7_init).all (fun q => q.2.all (pm_ckI cX7_init)) = true := by decide +kernel
def i_X7_place : List (Nat × List (Nat × Instr × Nat)) := [(20, [(0, .aload_n 0, 0), (1, .aload_n 1, 0), (2, .aload_n 2, 0), (3, .aload_n 3, 0), (4, .invokevirtual 21, 0), (7, .aload_n 0, 0), (8, .getfield 15, 0), (11, .iconst 0, 0), (12, .invokestatic 25, 0), (15, .aload_n 1, 0), (16, .getfield 31, 0), (19, .iconst 1, 0)]), (42, [(20, .isub, 0), (21, .istore 4, 0), (23, .iload 4, 0), (25, .ifCond .lt 52, 77), (28, .iconst 0, 0), (29, .istore 5, 0), (31, .iload 5, 0), (33, .iconst 1, 0), (34, .aload_n 1, 0), (35, .getfield 37, 0), (38, .ishl, 0), (39, .if_icmp .ge 32, 71)]), (64, [(42, .aload_n 0, 0), (43, .getfield 15, 0), (46, .iload 4, 0), (48, .sipush 256, 0), (51, .imul, 0), (52, .iload 5, 0), (54, .iadd, 0), (55, .aload_n 0, 0), (56, .aload_n 1, 0), (57, .iload 4, 0), (59, .iload 5, 0), (61, .invokevirtual 40, 0)]), (1000000, [(64, .iastore, 0), (65, .iinc 5 1, 0), (68, .goto (-37), 31), (71, .iinc 4 (-1), 0), (74, .goto (-51), 23), (77, .aload_n 0, 0), (78, .aload_n 1, 0), (79, .invokevirtual 44, 0), (82, .return_, 0)])]
theorem ik_X7_place : (i_X7_place).all (fun q => q.2.all (pm_ckI cX7_place)) = true := by decide +kernel
def i_X7_measureAll : List (Nat × List (Nat × Instr × Nat)) := [(21, [(0, .iconst 0, 0), (1, .istore 4, 0), (3, .iload 4, 0), (5, .aload_n 1, 0), (6, .getfield 37, 0), (9, .if_icmp .ge 65, 74), (12, .aload_n 3, 0), (13, .aload_n 1, 0), (14, .aload_n 2, 0), (15, .aload_n 1, 0), (16, .getfield 48, 0), (19, .iload 4, 0)]), (45, [(21, .iaload, 0), (22, .invokevirtual 51, 0), (25, .iconst 0, 0), (26, .istore 5, 0), (28, .iload 5, 0), (30, .aload_n 1, 0), (31, .getfield 31, 0), (34, .if_icmp .ge 34, 68), (37, .aload_n 0, 0), (38, .getfield 9, 0), (41, .iload 5, 0), (43, .bipush 8, 0)]), (65, [(45, .imul, 0), (46, .iload 4, 0), (48, .iadd, 0), (49, .aload_n 3, 0), (50, .getfield 57, 0), (53, .aload_n 2, 0), (54, .getfield 60, 0), (57, .iload 5, 0), (59, .iaload, 0), (60, .iaload, 0), (61, .iastore, 0), (62, .iinc 5 1, 0)]), (1000000, [(65, .goto (-37), 28), (68, .iinc 4 1, 0), (71, .goto (-68), 3), (74, .return_, 0)])]
theorem ik_X7_measureAll : (i_X7_measureAll).all (fun q => q.2.all (pm_ckI cX7_measureAll)) = true := by decide +kernel
def i_X7_bestFrom : List (Nat × List (Nat × Instr × Nat)) := [(17, [(0, .aload_n 0, 0), (1, .getfield 15, 0), (4, .iload_n 2, 0), (5, .iconst 1, 0), (6, .iadd, 0), (7, .sipush 256, 0), (10, .imul, 0), (11, .iload_n 3, 0), (12, .iadd, 0), (13, .iaload, 0), (14, .istore 4, 0), (16, .iconst 0, 0)]), (41, [(17, .istore 5, 0), (19, .iload 5, 0), (21, .aload_n 1, 0), (22, .getfield 37, 0), (25, .if_icmp .ge 24, 49), (28, .iload 4, 0), (30, .aload_n 0, 0), (31, .iload_n 2, 0), (32, .iload_n 3, 0), (33, .iload 5, 0), (35, .invokevirtual 65, 0), (38, .invokestatic 69, 0)]), (1000000, [(41, .istore 4, 0), (43, .iinc 5 1, 0), (46, .goto (-27), 19), (49, .iload 4, 0), (51, .ireturn, 0)])]
theorem ik_X7_bestFrom : (i_X7_bestFrom).all (fun q => q.2.all (pm_ckI cX7_bestFrom)) = true := by decide +kernel
def i_X7_worthAt : List (Nat × List (Nat × Instr × Nat)) := [(16, [(0, .aload_n 0, 0), (1, .getfield 9, 0), (4, .iload_n 1, 0), (5, .bipush 8, 0), (7, .imul, 0), (8, .iload_n 3, 0), (9, .iadd, 0), (10, .iaload, 0), (11, .istore 4, 0), (13, .iload_n 2, 0), (14, .iload_n 3, 0), (15, .ishr, 0)]), (36, [(16, .iconst 1, 0), (17, .iand, 0), (18, .ifCond .ne 9, 27), (21, .iload 4, 0), (23, .iconst (-1), 0), (24, .if_icmp .ne 5, 29), (27, .iconst (-1), 0), (28, .ireturn, 0), (29, .sipush 1000, 0), (32, .iload 4, 0), (34, .isub, 0), (35, .aload_n 0, 0)]), (52, [(36, .getfield 15, 0), (39, .iload_n 1, 0), (40, .iconst 1, 0), (41, .iadd, 0), (42, .sipush 256, 0), (45, .imul, 0), (46, .iload_n 2, 0), (47, .iconst 1, 0), (48, .iload_n 3, 0), (49, .ishl, 0), (50, .ior, 0), (51, .iadd, 0)]), (1000000, [(52, .iaload, 0), (53, .iadd, 0), (54, .ireturn, 0)])]
theorem ik_X7_worthAt : (i_X7_worthAt).all (fun q => q.2.all (pm_ckI cX7_worthAt)) = true := by decide +kernel
def i_X7_choose : List (Nat × List (Nat × Instr × Nat)) := [(16, [(0, .aload_n 0, 0), (1, .iconst 0, 0), (2, .putfield 75, 0), (5, .aload_n 0, 0), (6, .iconst 0, 0), (7, .putfield 78, 0), (10, .iconst 0, 0), (11, .istore_n 2, 0), (12, .iconst 0, 0), (13, .istore_n 3, 0), (14, .iload_n 3, 0), (15, .aload_n 1, 0)]), (38, [(16, .getfield 31, 0), (19, .if_icmp .ge 131, 150), (22, .aload_n 0, 0), (23, .getfield 18, 0), (26, .iload_n 3, 0), (27, .iconst (-1), 0), (28, .iastore, 0), (29, .iconst 0, 0), (30, .istore 4, 0), (32, .iload 4, 0), (34, .aload_n 1, 0), (35, .getfield 37, 0)]), (59, [(38, .if_icmp .ge 81, 119), (41, .aload_n 0, 0), (42, .getfield 18, 0), (45, .iload_n 3, 0), (46, .iaload, 0), (47, .iconst (-1), 0), (48, .if_icmp .ne 71, 119), (51, .aload_n 0, 0), (52, .iload_n 3, 0), (53, .iload_n 2, 0), (54, .iload 4, 0), (56, .invokevirtual 65, 0)]), (79, [(59, .aload_n 0, 0), (60, .getfield 15, 0), (63, .iload_n 3, 0), (64, .sipush 256, 0), (67, .imul, 0), (68, .iload_n 2, 0), (69, .iadd, 0), (70, .iaload, 0), (71, .if_icmp .ne 42, 113), (74, .aload_n 0, 0), (75, .getfield 18, 0), (78, .iload_n 3, 0)]), (98, [(79, .iload 4, 0), (81, .iastore, 0), (82, .aload_n 0, 0), (83, .dup, 0), (84, .getfield 75, 0), (87, .iconst 1, 0), (88, .iadd, 0), (89, .putfield 75, 0), (92, .aload_n 0, 0), (93, .dup, 0), (94, .getfield 78, 0), (97, .aload_n 0, 0)]), (120, [(98, .getfield 9, 0), (101, .iload_n 3, 0), (102, .bipush 8, 0), (104, .imul, 0), (105, .iload 4, 0), (107, .iadd, 0), (108, .iaload, 0), (109, .iadd, 0), (110, .putfield 78, 0), (113, .iinc 4 1, 0), (116, .goto (-84), 32), (119, .aload_n 0, 0)]), (140, [(120, .getfield 18, 0), (123, .iload_n 3, 0), (124, .iaload, 0), (125, .iconst (-1), 0), (126, .if_icmp .ne 7, 133), (129, .iload_n 2, 0), (130, .goto 13, 143), (133, .iload_n 2, 0), (134, .iconst 1, 0), (135, .aload_n 0, 0), (136, .getfield 18, 0), (139, .iload_n 3, 0)]), (1000000, [(140, .iaload, 0), (141, .ishl, 0), (142, .ior, 0), (143, .istore_n 2, 0), (144, .iinc 3 1, 0), (147, .goto (-133), 14), (150, .return_, 0)])]
theorem ik_X7_choose : (i_X7_choose).all (fun q => q.2.all (pm_ckI cX7_choose)) = true := by decide +kernel
def i_X8_init : List (Nat × List (Nat × Instr × Nat)) := [(23, [(0, .aload_n 0, 0), (1, .invokespecial 3, 0), (4, .aload_n 0, 0), (5, .bipush 8, 0), (7, .newarray .int, 0), (9, .putfield 9, 0), (12, .aload_n 0, 0), (13, .bipush 8, 0), (15, .newarray .int, 0), (17, .putfield 15, 0), (20, .aload_n 0, 0), (21, .bipush 8, 0)]), (1000000, [(23, .newarray .int, 0), (25, .putfield 18, 0), (28, .aload_n 0, 0), (29, .bipush 8, 0), (31, .newarray .int, 0), (33, .putfield 21, 0), (36, .return_, 0)])]
theorem ik_X8_init : (i_X8_init).all (fun q => q.2.all (pm_ckI cX8_init)) = true := by decide +kernel
def i_X8_begin : List (Nat × List (Nat × Instr × Nat)) := [(20, [(0, .aload_n 0, 0), (1, .iconst 0, 0), (2, .putfield 24, 0), (5, .aload_n 0, 0), (6, .iconst 0, 0), (7, .putfield 28, 0), (10, .aload_n 0, 0), (11, .aload_n 1, 0), (12, .getfield 31, 0), (15, .putfield 37, 0), (18, .aload_n 0, 0), (19, .aload_n 1, 0)]), (45, [(20, .getfield 38, 0), (23, .putfield 41, 0), (26, .aload_n 1, 0), (27, .getfield 42, 0), (30, .iconst 0, 0), (31, .aload_n 0, 0), (32, .getfield 9, 0), (35, .iconst 0, 0), (36, .bipush 8, 0), (38, .invokestatic 45, 0), (41, .aload_n 0, 0), (42, .getfield 15, 0)]), (1000000, [(45, .iconst 0, 0), (46, .invokestatic 51, 0), (49, .aload_n 0, 0), (50, .getfield 18, 0), (53, .iconst 0, 0), (54, .invokestatic 51, 0), (57, .aload_n 0, 0), (58, .getfield 21, 0), (61, .iconst 0, 0), (62, .invokestatic 51, 0), (65, .return_, 0)])]
theorem ik_X8_begin : (i_X8_begin).all (fun q => q.2.all (pm_ckI cX8_begin)) = true := by decide +kernel
def i_X8_copyFrom : List (Nat × List (Nat × Instr × Nat)) := [(24, [(0, .aload_n 0, 0), (1, .aload_n 1, 0), (2, .getfield 24, 0), (5, .putfield 24, 0), (8, .aload_n 0, 0), (9, .aload_n 1, 0), (10, .getfield 28, 0), (13, .putfield 28, 0), (16, .aload_n 0, 0), (17, .aload_n 1, 0), (18, .getfield 37, 0), (21, .putfield 37, 0)]), (47, [(24, .aload_n 0, 0), (25, .aload_n 1, 0), (26, .getfield 41, 0), (29, .putfield 41, 0), (32, .aload_n 1, 0), (33, .getfield 9, 0), (36, .iconst 0, 0), (37, .aload_n 0, 0), (38, .getfield 9, 0), (41, .iconst 0, 0), (42, .bipush 8, 0), (44, .invokestatic 45, 0)]), (68, [(47, .aload_n 1, 0), (48, .getfield 15, 0), (51, .iconst 0, 0), (52, .aload_n 0, 0), (53, .getfield 15, 0), (56, .iconst 0, 0), (57, .bipush 8, 0), (59, .invokestatic 45, 0), (62, .aload_n 1, 0), (63, .getfield 18, 0), (66, .iconst 0, 0), (67, .aload_n 0, 0)]), (92, [(68, .getfield 18, 0), (71, .iconst 0, 0), (72, .bipush 8, 0), (74, .invokestatic 45, 0), (77, .aload_n 1, 0), (78, .getfield 21, 0), (81, .iconst 0, 0), (82, .aload_n 0, 0), (83, .getfield 21, 0), (86, .iconst 0, 0), (87, .bipush 8, 0), (89, .invokestatic 45, 0)]), (1000000, [(92, .return_, 0)])]
theorem ik_X8_copyFrom : (i_X8_copyFrom).all (fun q => q.2.all (pm_ckI cX8_copyFrom)) = true := by decide +kernel
def i_X8_saveTo : List (Nat × List (Nat × Instr × Nat)) := [(17, [(0, .iload_n 2, 0), (1, .ifCond .lt 12, 13), (4, .iload_n 2, 0), (5, .bipush 28, 0), (7, .iadd, 0), (8, .aload_n 1, 0), (9, .arraylength, 0), (10, .if_icmp .le 4, 14), (13, .return_, 0), (14, .aload_n 1, 0), (15, .iload_n 2, 0), (16, .aload_n 0, 0)]), (33, [(17, .getfield 24, 0), (20, .iastore, 0), (21, .aload_n 1, 0), (22, .iload_n 2, 0), (23, .iconst 1, 0), (24, .iadd, 0), (25, .aload_n 0, 0), (26, .getfield 28, 0), (29, .iastore, 0), (30, .aload_n 1, 0), (31, .iload_n 2, 0), (32, .iconst 2, 0)]), (50, [(33, .iadd, 0), (34, .aload_n 0, 0), (35, .getfield 37, 0), (38, .l2i, 0), (39, .iastore, 0), (40, .aload_n 1, 0), (41, .iload_n 2, 0), (42, .iconst 3, 0), (43, .iadd, 0), (44, .aload_n 0, 0), (45, .getfield 37, 0), (48, .bipush 32, 0)]), (67, [(50, .lushr, 0), (51, .l2i, 0), (52, .iastore, 0), (53, .aload_n 0, 0), (54, .getfield 9, 0), (57, .iconst 0, 0), (58, .aload_n 1, 0), (59, .iload_n 2, 0), (60, .iconst 4, 0), (61, .iadd, 0), (62, .bipush 8, 0), (64, .invokestatic 45, 0)]), (85, [(67, .aload_n 0, 0), (68, .getfield 15, 0), (71, .iconst 0, 0), (72, .aload_n 1, 0), (73, .iload_n 2, 0), (74, .iconst 4, 0), (75, .iadd, 0), (76, .bipush 8, 0), (78, .iadd, 0), (79, .bipush 8, 0), (81, .invokestatic 45, 0), (84, .aload_n 0, 0)]), (1000000, [(85, .getfield 18, 0), (88, .iconst 0, 0), (89, .aload_n 1, 0), (90, .iload_n 2, 0), (91, .iconst 4, 0), (92, .iadd, 0), (93, .bipush 16, 0), (95, .iadd, 0), (96, .bipush 8, 0), (98, .invokestatic 45, 0), (101, .return_, 0)])]
theorem ik_X8_saveTo : (i_X8_saveTo).all (fun q => q.2.all (pm_ckI cX8_saveTo)) = true := by decide +kernel
def i_X8_loadFrom : List (Nat × List (Nat × Instr × Nat)) := [(17, [(0, .iload_n 2, 0), (1, .ifCond .lt 12, 13), (4, .iload_n 2, 0), (5, .bipush 28, 0), (7, .iadd, 0), (8, .aload_n 1, 0), (9, .arraylength, 0), (10, .if_icmp .le 4, 14), (13, .return_, 0), (14, .aload_n 0, 0), (15, .aload_n 1, 0), (16, .iload_n 2, 0)]), (33, [(17, .iaload, 0), (18, .putfield 24, 0), (21, .aload_n 0, 0), (22, .aload_n 1, 0), (23, .iload_n 2, 0), (24, .iconst 1, 0), (25, .iadd, 0), (26, .iaload, 0), (27, .putfield 28, 0), (30, .aload_n 0, 0), (31, .aload_n 1, 0), (32, .iload_n 2, 0)]), (46, [(33, .iconst 3, 0), (34, .iadd, 0), (35, .iaload, 0), (36, .i2l, 0), (37, .bipush 32, 0), (39, .lshl, 0), (40, .aload_n 1, 0), (41, .iload_n 2, 0), (42, .iconst 2, 0), (43, .iadd, 0), (44, .iaload, 0), (45, .i2l, 0)]), (65, [(46, .ldc2_w 57, 0), (49, .land, 0), (50, .lor, 0), (51, .putfield 37, 0), (54, .aload_n 1, 0), (55, .iload_n 2, 0), (56, .iconst 4, 0), (57, .iadd, 0), (58, .aload_n 0, 0), (59, .getfield 9, 0), (62, .iconst 0, 0), (63, .bipush 8, 0)]), (85, [(65, .invokestatic 45, 0), (68, .aload_n 1, 0), (69, .iload_n 2, 0), (70, .iconst 4, 0), (71, .iadd, 0), (72, .bipush 8, 0), (74, .iadd, 0), (75, .aload_n 0, 0), (76, .getfield 15, 0), (79, .iconst 0, 0), (80, .bipush 8, 0), (82, .invokestatic 45, 0)]), (1000000, [(85, .aload_n 1, 0), (86, .iload_n 2, 0), (87, .iconst 4, 0), (88, .iadd, 0), (89, .bipush 16, 0), (91, .iadd, 0), (92, .aload_n 0, 0), (93, .getfield 18, 0), (96, .iconst 0, 0), (97, .bipush 8, 0), (99, .invokestatic 45, 0), (102, .return_, 0)])]
theorem ik_X8_loadFrom : (i_X8_loadFrom).all (fun q => q.2.all (pm_ckI cX8_loadFrom)) = true := by decide +kernel
def i_X8_isWall : List (Nat × List (Nat × Instr × Nat)) := [(18, [(0, .aload_n 0, 0), (1, .getfield 37, 0), (4, .iload_n 1, 0), (5, .lushr, 0), (6, .lconst 1, 0), (7, .land, 0), (8, .lconst 0, 0), (9, .lcmp, 0), (10, .ifCond .eq 7, 17), (13, .iconst 1, 0), (14, .goto 4, 18), (17, .iconst 0, 0)]), (1000000, [(18, .ireturn, 0)])]
theorem ik_X8_isWall : (i_X8_isWall).all (fun q => q.2.all (pm_ckI cX8_isWall)) = true := by decide +kernel
def i_X8_figuresAt : List (Nat × List (Nat × Instr × Nat)) := [(18, [(0, .iconst 0, 0), (1, .istore_n 2, 0), (2, .iconst 0, 0), (3, .istore_n 3, 0), (4, .iload_n 3, 0), (5, .aload_n 0, 0), (6, .getfield 41, 0), (9, .if_icmp .ge 25, 34), (12, .aload_n 0, 0), (13, .getfield 9, 0), (16, .iload_n 3, 0), (17, .iaload, 0)]), (1000000, [(18, .iload_n 1, 0), (19, .if_icmp .ne 9, 28), (22, .iload_n 2, 0), (23, .iconst 1, 0), (24, .iload_n 3, 0), (25, .ishl, 0), (26, .ior, 0), (27, .istore_n 2, 0), (28, .iinc 3 1, 0), (31, .goto (-27), 4), (34, .iload_n 2, 0), (35, .ireturn, 0)])]
theorem ik_X8_figuresAt : (i_X8_figuresAt).all (fun q => q.2.all (pm_ckI cX8_figuresAt)) = true := by decide +kernel
def i_X8_othersWith : List (Nat × List (Nat × Instr × Nat)) := [(18, [(0, .iconst (-1), 0), (1, .istore_n 2, 0), (2, .iconst 0, 0), (3, .istore_n 3, 0), (4, .iload_n 3, 0), (5, .aload_n 0, 0), (6, .getfield 41, 0), (9, .if_icmp .ge 32, 41), (12, .iload_n 2, 0), (13, .aload_n 0, 0), (14, .getfield 9, 0), (17, .iload_n 3, 0)]), (38, [(18, .iaload, 0), (19, .aload_n 0, 0), (20, .getfield 9, 0), (23, .iload_n 1, 0), (24, .iaload, 0), (25, .if_icmp .ne 7, 32), (28, .iconst 1, 0), (29, .goto 4, 33), (32, .iconst 0, 0), (33, .iadd, 0), (34, .istore_n 2, 0), (35, .iinc 3 1, 0)]), (1000000, [(38, .goto (-34), 4), (41, .iload_n 2, 0), (42, .ireturn, 0)])]
theorem ik_X8_othersWith : (i_X8_othersWith).all (fun q => q.2.all (pm_ckI cX8_othersWith)) = true := by decide +kernel
def i_X8_aloneBits : List (Nat × List (Nat × Instr × Nat)) := [(20, [(0, .iconst 0, 0), (1, .istore_n 1, 0), (2, .iconst 0, 0), (3, .istore_n 2, 0), (4, .iload_n 2, 0), (5, .aload_n 0, 0), (6, .getfield 41, 0), (9, .if_icmp .ge 23, 32), (12, .aload_n 0, 0), (13, .iload_n 2, 0), (14, .invokevirtual 59, 0), (17, .ifCond .ne 9, 26)]), (1000000, [(20, .iload_n 1, 0), (21, .iconst 1, 0), (22, .iload_n 2, 0), (23, .ishl, 0), (24, .ior, 0), (25, .istore_n 1, 0), (26, .iinc 2 1, 0), (29, .goto (-25), 4), (32, .iload_n 1, 0), (33, .ireturn, 0)])]
theorem ik_X8_aloneBits : (i_X8_aloneBits).all (fun q => q.2.all (pm_ckI cX8_aloneBits)) = true := by decide +kernel
end
section
def i_X8_placedAsBits : List (Nat × List (Nat × Instr × Nat)) := [(18, [(0, .iconst 0, 0), (1, .istore_n 2, 0), (2, .iconst 0, 0), (3, .istore_n 3, 0), (4, .iload_n 3, 0), (5, .aload_n 0, 0), (6, .getfield 41, 0), (9, .if_icmp .ge 30, 39), (12, .aload_n 0, 0), (13, .getfield 9, 0), (16, .iload_n 3, 0), (17, .iaload, 0)]), (36, [(18, .aload_n 1, 0), (19, .getfield 9, 0), (22, .iload_n 3, 0), (23, .iaload, 0), (24, .if_icmp .ne 9, 33), (27, .iload_n 2, 0), (28, .iconst 1, 0), (29, .iload_n 3, 0), (30, .ishl, 0), (31, .ior, 0), (32, .istore_n 2, 0), (33, .iinc 3 1, 0)]), (1000000, [(36, .goto (-32), 4), (39, .iload_n 2, 0), (40, .ireturn, 0)])]
theorem ik_X8_placedAsBits : (i_X8_placedAsBits).all (fun q => q.2.all (pm_ckI cX8_placedAsBits)) = true := by decide +kernel
def i_X8_isPlacedAs : List (Nat × List (Nat × Instr × Nat)) := [(20, [(0, .aload_n 0, 0), (1, .aload_n 1, 0), (2, .invokevirtual 63, 0), (5, .iconst 1, 0), (6, .aload_n 0, 0), (7, .getfield 41, 0), (10, .ishl, 0), (11, .iconst 1, 0), (12, .isub, 0), (13, .if_icmp .ne 7, 20), (16, .iconst 1, 0), (17, .goto 4, 21)]), (1000000, [(20, .iconst 0, 0), (21, .ireturn, 0)])]
theorem ik_X8_isPlacedAs : (i_X8_isPlacedAs).all (fun q => q.2.all (pm_ckI cX8_isPlacedAs)) = true := by decide +kernel
def i_X8_places : List (Nat × List (Nat × Instr × Nat)) := [(18, [(0, .lconst 0, 0), (1, .lstore_n 1, 0), (2, .iconst 0, 0), (3, .istore_n 3, 0), (4, .iload_n 3, 0), (5, .aload_n 0, 0), (6, .getfield 41, 0), (9, .if_icmp .ge 20, 29), (12, .lload_n 1, 0), (13, .lconst 1, 0), (14, .aload_n 0, 0), (15, .getfield 9, 0)]), (1000000, [(18, .iload_n 3, 0), (19, .iaload, 0), (20, .lshl, 0), (21, .lor, 0), (22, .lstore_n 1, 0), (23, .iinc 3 1, 0), (26, .goto (-22), 4), (29, .lload_n 1, 0), (30, .lreturn, 0)])]
theorem ik_X8_places : (i_X8_places).all (fun q => q.2.all (pm_ckI cX8_places)) = true := by decide +kernel
def i_X8_soreOfAll : List (Nat × List (Nat × Instr × Nat)) := [(18, [(0, .iconst 0, 0), (1, .istore_n 1, 0), (2, .iconst 0, 0), (3, .istore_n 2, 0), (4, .iload_n 2, 0), (5, .aload_n 0, 0), (6, .getfield 41, 0), (9, .if_icmp .ge 18, 27), (12, .iload_n 1, 0), (13, .aload_n 0, 0), (14, .getfield 15, 0), (17, .iload_n 2, 0)]), (1000000, [(18, .iaload, 0), (19, .iadd, 0), (20, .istore_n 1, 0), (21, .iinc 2 1, 0), (24, .goto (-20), 4), (27, .iload_n 1, 0), (28, .ireturn, 0)])]
theorem ik_X8_soreOfAll : (i_X8_soreOfAll).all (fun q => q.2.all (pm_ckI cX8_soreOfAll)) = true := by decide +kernel
def i_X8_heldBits : List (Nat × List (Nat × Instr × Nat)) := [(18, [(0, .iconst 0, 0), (1, .istore_n 1, 0), (2, .iconst 0, 0), (3, .istore_n 2, 0), (4, .iload_n 2, 0), (5, .aload_n 0, 0), (6, .getfield 41, 0), (9, .if_icmp .ge 24, 33), (12, .aload_n 0, 0), (13, .getfield 18, 0), (16, .iload_n 2, 0), (17, .iaload, 0)]), (1000000, [(18, .ifCond .le 9, 27), (21, .iload_n 1, 0), (22, .iconst 1, 0), (23, .iload_n 2, 0), (24, .ishl, 0), (25, .ior, 0), (26, .istore_n 1, 0), (27, .iinc 2 1, 0), (30, .goto (-26), 4), (33, .iload_n 1, 0), (34, .ireturn, 0)])]
theorem ik_X8_heldBits : (i_X8_heldBits).all (fun q => q.2.all (pm_ckI cX8_heldBits)) = true := by decide +kernel
def i_X9_init : List (Nat × List (Nat × Instr × Nat)) := [(1000000, [(0, .aload_n 0, 0), (1, .invokespecial 3, 0), (4, .aload_n 0, 0), (5, .sipush 700, 0), (8, .newarray .char, 0), (10, .putfield 9, 0), (13, .return_, 0)])]
theorem ik_X9_init : (i_X9_init).all (fun q => q.2.all (pm_ckI cX9_init)) = true := by decide +kernel
def i_X9_add : List (Nat × List (Nat × Instr × Nat)) := [(25, [(0, .bipush 24, 0), (2, .istore_n 2, 0), (3, .iload_n 2, 0), (4, .ifCond .lt 46, 50), (7, .aload_n 0, 0), (8, .getfield 15, 0), (11, .sipush 700, 0), (14, .if_icmp .ge 36, 50), (17, .aload_n 0, 0), (18, .getfield 9, 0), (21, .aload_n 0, 0), (22, .getfield 15, 0)]), (41, [(25, .iload_n 1, 0), (26, .iload_n 2, 0), (27, .iushr, 0), (28, .sipush 255, 0), (31, .iand, 0), (32, .i2c, 0), (33, .castore, 0), (34, .aload_n 0, 0), (35, .dup, 0), (36, .getfield 15, 0), (39, .iconst 1, 0), (40, .iadd, 0)]), (1000000, [(41, .putfield 15, 0), (44, .iinc 2 (-8), 0), (47, .goto (-44), 3), (50, .return_, 0)])]
theorem ik_X9_add : (i_X9_add).all (fun q => q.2.all (pm_ckI cX9_add)) = true := by decide +kernel
def i_X9_begin : List (Nat × List (Nat × Instr × Nat)) := [(1000000, [(0, .aload_n 0, 0), (1, .iload_n 1, 0), (2, .putfield 19, 0), (5, .aload_n 0, 0), (6, .iconst 0, 0), (7, .putfield 22, 0), (10, .aload_n 0, 0), (11, .invokevirtual 25, 0), (14, .return_, 0)])]
theorem ik_X9_begin : (i_X9_begin).all (fun q => q.2.all (pm_ckI cX9_begin)) = true := by decide +kernel
def i_X9_advance : List (Nat × List (Nat × Instr × Nat)) := [(24, [(0, .aload_n 0, 0), (1, .aload_n 0, 0), (2, .getfield 22, 0), (5, .putfield 28, 0), (8, .aload_n 0, 0), (9, .getfield 28, 0), (12, .aload_n 0, 0), (13, .getfield 19, 0), (16, .if_icmp .ge 44, 60), (19, .aload_n 0, 0), (20, .getfield 9, 0), (23, .aload_n 0, 0)]), (48, [(24, .getfield 28, 0), (27, .caload, 0), (28, .bipush 32, 0), (30, .if_icmp .eq 17, 47), (33, .aload_n 0, 0), (34, .getfield 9, 0), (37, .aload_n 0, 0), (38, .getfield 28, 0), (41, .caload, 0), (42, .bipush 10, 0), (44, .if_icmp .ne 16, 60), (47, .aload_n 0, 0)]), (72, [(48, .dup, 0), (49, .getfield 28, 0), (52, .iconst 1, 0), (53, .iadd, 0), (54, .putfield 28, 0), (57, .goto (-49), 8), (60, .aload_n 0, 0), (61, .aload_n 0, 0), (62, .getfield 28, 0), (65, .putfield 22, 0), (68, .aload_n 0, 0), (69, .getfield 28, 0)]), (94, [(72, .aload_n 0, 0), (73, .getfield 19, 0), (76, .if_icmp .lt 9, 85), (79, .aload_n 0, 0), (80, .iconst 0, 0), (81, .putfield 31, 0), (84, .return_, 0), (85, .aload_n 0, 0), (86, .getfield 9, 0), (89, .aload_n 0, 0), (90, .getfield 28, 0), (93, .caload, 0)]), (118, [(94, .istore_n 1, 0), (95, .iload_n 1, 0), (96, .invokestatic 34, 0), (99, .ifCond .eq 47, 146), (102, .aload_n 0, 0), (103, .iconst 1, 0), (104, .putfield 31, 0), (107, .aload_n 0, 0), (108, .getfield 22, 0), (111, .aload_n 0, 0), (112, .getfield 19, 0), (115, .if_icmp .ge 73, 188)]), (140, [(118, .aload_n 0, 0), (119, .getfield 9, 0), (122, .aload_n 0, 0), (123, .getfield 22, 0), (126, .caload, 0), (127, .invokestatic 34, 0), (130, .ifCond .eq 58, 188), (133, .aload_n 0, 0), (134, .dup, 0), (135, .getfield 22, 0), (138, .iconst 1, 0), (139, .iadd, 0)]), (167, [(140, .putfield 22, 0), (143, .goto (-36), 107), (146, .iload_n 1, 0), (147, .invokestatic 38, 0), (150, .ifCond .eq 10, 160), (153, .aload_n 0, 0), (154, .invokevirtual 41, 0), (157, .goto 31, 188), (160, .aload_n 0, 0), (161, .ldc 44, 0), (163, .iload_n 1, 0), (164, .invokevirtual 46, 0)]), (1000000, [(167, .ifCond .lt 7, 174), (170, .iconst 3, 0), (171, .goto 4, 175), (174, .iconst 4, 0), (175, .putfield 31, 0), (178, .aload_n 0, 0), (179, .dup, 0), (180, .getfield 22, 0), (183, .iconst 1, 0), (184, .iadd, 0), (185, .putfield 22, 0), (188, .return_, 0)])]
theorem ik_X9_advance : (i_X9_advance).all (fun q => q.2.all (pm_ckI cX9_advance)) = true := by decide +kernel
def i_X9_readNumber : List (Nat × List (Nat × Instr × Nat)) := [(22, [(0, .aload_n 0, 0), (1, .iconst 2, 0), (2, .putfield 31, 0), (5, .aload_n 0, 0), (6, .iconst 0, 0), (7, .putfield 52, 0), (10, .aload_n 0, 0), (11, .getfield 22, 0), (14, .aload_n 0, 0), (15, .getfield 19, 0), (18, .if_icmp .ge 60, 78), (21, .aload_n 0, 0)]), (46, [(22, .getfield 9, 0), (25, .aload_n 0, 0), (26, .getfield 22, 0), (29, .caload, 0), (30, .invokestatic 38, 0), (33, .ifCond .eq 45, 78), (36, .aload_n 0, 0), (37, .ldc 55, 0), (39, .aload_n 0, 0), (40, .getfield 52, 0), (43, .bipush 10, 0), (45, .imul, 0)]), (67, [(46, .aload_n 0, 0), (47, .getfield 9, 0), (50, .aload_n 0, 0), (51, .getfield 22, 0), (54, .caload, 0), (55, .bipush 48, 0), (57, .isub, 0), (58, .iadd, 0), (59, .invokestatic 56, 0), (62, .putfield 52, 0), (65, .aload_n 0, 0), (66, .dup, 0)]), (1000000, [(67, .getfield 22, 0), (70, .iconst 1, 0), (71, .iadd, 0), (72, .putfield 22, 0), (75, .goto (-65), 10), (78, .return_, 0)])]
theorem ik_X9_readNumber : (i_X9_readNumber).all (fun q => q.2.all (pm_ckI cX9_readNumber)) = true := by decide +kernel
def i_X9_isLetter : List (Nat × List (Nat × Instr × Nat)) := [(1000000, [(0, .iload_n 0, 0), (1, .bipush 97, 0), (3, .if_icmp .lt 13, 16), (6, .iload_n 0, 0), (7, .bipush 122, 0), (9, .if_icmp .gt 7, 16), (12, .iconst 1, 0), (13, .goto 4, 17), (16, .iconst 0, 0), (17, .ireturn, 0)])]
theorem ik_X9_isLetter : (i_X9_isLetter).all (fun q => q.2.all (pm_ckI cX9_isLetter)) = true := by decide +kernel
def i_X9_isDigit : List (Nat × List (Nat × Instr × Nat)) := [(1000000, [(0, .iload_n 0, 0), (1, .bipush 48, 0), (3, .if_icmp .lt 13, 16), (6, .iload_n 0, 0), (7, .bipush 57, 0), (9, .if_icmp .gt 7, 16), (12, .iconst 1, 0), (13, .goto 4, 17), (16, .iconst 0, 0), (17, .ireturn, 0)])]
theorem ik_X9_isDigit : (i_X9_isDigit).all (fun q => q.2.all (pm_ckI cX9_isDigit)) = true := by decide +kernel
def i_X9_hasManyDigits : List (Nat × List (Nat × Instr × Nat)) := [(1000000, [(0, .aload_n 0, 0), (1, .getfield 22, 0), (4, .aload_n 0, 0), (5, .getfield 28, 0), (8, .isub, 0), (9, .iconst 4, 0), (10, .if_icmp .le 7, 17), (13, .iconst 1, 0), (14, .goto 4, 18), (17, .iconst 0, 0), (18, .ireturn, 0)])]
theorem ik_X9_hasManyDigits : (i_X9_hasManyDigits).all (fun q => q.2.all (pm_ckI cX9_hasManyDigits)) = true := by decide +kernel
def i_X9_isNumber : List (Nat × List (Nat × Instr × Nat)) := [(24, [(0, .aload_n 0, 0), (1, .getfield 31, 0), (4, .iconst 2, 0), (5, .if_icmp .ne 22, 27), (8, .aload_n 0, 0), (9, .invokevirtual 62, 0), (12, .ifCond .ne 15, 27), (15, .aload_n 0, 0), (16, .getfield 52, 0), (19, .iload_n 1, 0), (20, .if_icmp .gt 7, 27), (23, .iconst 1, 0)]), (1000000, [(24, .goto 4, 28), (27, .iconst 0, 0), (28, .ireturn, 0)])]
theorem ik_X9_isNumber : (i_X9_isNumber).all (fun q => q.2.all (pm_ckI cX9_isNumber)) = true := by decide +kernel
def i_X9_isSign : List (Nat × List (Nat × Instr × Nat)) := [(22, [(0, .aload_n 0, 0), (1, .getfield 31, 0), (4, .iconst 3, 0), (5, .if_icmp .ne 20, 25), (8, .aload_n 0, 0), (9, .getfield 9, 0), (12, .aload_n 0, 0), (13, .getfield 28, 0), (16, .caload, 0), (17, .iload_n 1, 0), (18, .if_icmp .ne 7, 25), (21, .iconst 1, 0)]), (1000000, [(22, .goto 4, 26), (25, .iconst 0, 0), (26, .ireturn, 0)])]
theorem ik_X9_isSign : (i_X9_isSign).all (fun q => q.2.all (pm_ckI cX9_isSign)) = true := by decide +kernel
def i_X9_sign : List (Nat × List (Nat × Instr × Nat)) := [(1000000, [(0, .aload_n 0, 0), (1, .getfield 31, 0), (4, .iconst 3, 0), (5, .if_icmp .ne 15, 20), (8, .aload_n 0, 0), (9, .getfield 9, 0), (12, .aload_n 0, 0), (13, .getfield 28, 0), (16, .caload, 0), (17, .goto 4, 21), (20, .iconst (-1), 0), (21, .ireturn, 0)])]
theorem ik_X9_sign : (i_X9_sign).all (fun q => q.2.all (pm_ckI cX9_sign)) = true := by decide +kernel
def i_X9_isWord : List (Nat × List (Nat × Instr × Nat)) := [(24, [(0, .aload_n 0, 0), (1, .getfield 31, 0), (4, .iconst 1, 0), (5, .if_icmp .ne 19, 24), (8, .aload_n 0, 0), (9, .getfield 22, 0), (12, .aload_n 0, 0), (13, .getfield 28, 0), (16, .isub, 0), (17, .aload_n 1, 0), (18, .invokevirtual 66, 0), (21, .if_icmp .eq 5, 26)]), (44, [(24, .iconst 0, 0), (25, .ireturn, 0), (26, .iconst 0, 0), (27, .istore_n 2, 0), (28, .iload_n 2, 0), (29, .aload_n 1, 0), (30, .invokevirtual 66, 0), (33, .if_icmp .ge 30, 63), (36, .aload_n 0, 0), (37, .getfield 9, 0), (40, .aload_n 0, 0), (41, .getfield 28, 0)]), (64, [(44, .iload_n 2, 0), (45, .iadd, 0), (46, .caload, 0), (47, .aload_n 1, 0), (48, .iload_n 2, 0), (49, .invokevirtual 69, 0), (52, .if_icmp .eq 5, 57), (55, .iconst 0, 0), (56, .ireturn, 0), (57, .iinc 2 1, 0), (60, .goto (-32), 28), (63, .iconst 1, 0)]), (1000000, [(64, .ireturn, 0)])]
theorem ik_X9_isWord : (i_X9_isWord).all (fun q => q.2.all (pm_ckI cX9_isWord)) = true := by decide +kernel
def i_X10_init : List (Nat × List (Nat × Instr × Nat)) := [(1000000, [(0, .aload_n 0, 0), (1, .invokespecial 3, 0), (4, .aload_n 0, 0), (5, .bipush 36, 0), (7, .newarray .int, 0), (9, .putfield 9, 0), (12, .aload_n 0, 0), (13, .bipush 36, 0), (15, .newarray .int, 0), (17, .putfield 15, 0), (20, .return_, 0)])]
theorem ik_X10_init : (i_X10_init).all (fun q => q.2.all (pm_ckI cX10_init)) = true := by decide +kernel
def i_X10_measure : List (Nat × List (Nat × Instr × Nat)) := [(20, [(0, .aload_n 0, 0), (1, .getfield 9, 0), (4, .iconst (-1), 0), (5, .invokestatic 18, 0), (8, .aload_n 0, 0), (9, .getfield 9, 0), (12, .iload_n 3, 0), (13, .iconst 0, 0), (14, .iastore, 0), (15, .aload_n 0, 0), (16, .getfield 15, 0), (19, .iconst 0, 0)]), (40, [(20, .iload_n 3, 0), (21, .iastore, 0), (22, .aload_n 2, 0), (23, .iload_n 3, 0), (24, .invokevirtual 24, 0), (27, .ifCond .eq 7, 34), (30, .iconst 0, 0), (31, .goto 4, 35), (34, .iconst 1, 0), (35, .istore 4, 0), (37, .iconst 0, 0), (38, .istore 5, 0)]), (64, [(40, .iload 5, 0), (42, .iload 4, 0), (44, .if_icmp .ge 114, 158), (47, .iload 5, 0), (49, .bipush 36, 0), (51, .if_icmp .ge 107, 158), (54, .aload_n 0, 0), (55, .getfield 15, 0), (58, .iload 5, 0), (60, .iaload, 0), (61, .istore 6, 0), (63, .iconst 1, 0)]), (88, [(64, .istore 7, 0), (66, .iload 7, 0), (68, .iconst 4, 0), (69, .if_icmp .gt 83, 152), (72, .aload_n 1, 0), (73, .iload 6, 0), (75, .iload 7, 0), (77, .invokevirtual 30, 0), (80, .istore 8, 0), (82, .iload 8, 0), (84, .iconst (-1), 0), (85, .if_icmp .eq 61, 146)]), (112, [(88, .aload_n 0, 0), (89, .getfield 9, 0), (92, .iload 8, 0), (94, .iaload, 0), (95, .iconst (-1), 0), (96, .if_icmp .eq 6, 102), (99, .goto 47, 146), (102, .aload_n 0, 0), (103, .getfield 9, 0), (106, .iload 8, 0), (108, .aload_n 0, 0), (109, .getfield 9, 0)]), (134, [(112, .iload 6, 0), (114, .iaload, 0), (115, .iconst 1, 0), (116, .iadd, 0), (117, .iastore, 0), (118, .aload_n 2, 0), (119, .iload 8, 0), (121, .invokevirtual 24, 0), (124, .ifCond .ne 22, 146), (127, .iload 4, 0), (129, .bipush 36, 0), (131, .if_icmp .ge 15, 146)]), (1000000, [(134, .aload_n 0, 0), (135, .getfield 15, 0), (138, .iload 4, 0), (140, .iload 8, 0), (142, .iastore, 0), (143, .iinc 4 1, 0), (146, .iinc 7 1, 0), (149, .goto (-83), 66), (152, .iinc 5 1, 0), (155, .goto (-115), 40), (158, .return_, 0)])]
theorem ik_X10_measure : (i_X10_measure).all (fun q => q.2.all (pm_ckI cX10_measure)) = true := by decide +kernel
def i_X10_firstStep : List (Nat × List (Nat × Instr × Nat)) := [(21, [(0, .iconst (-1), 0), (1, .istore 4, 0), (3, .iconst 1, 0), (4, .istore 5, 0), (6, .iload 5, 0), (8, .iconst 4, 0), (9, .if_icmp .gt 80, 89), (12, .aload_n 0, 0), (13, .getfield 9, 0), (16, .iload_n 3, 0), (17, .iaload, 0), (18, .ifCond .le 71, 89)]), (45, [(21, .aload_n 1, 0), (22, .iload_n 3, 0), (23, .iload 5, 0), (25, .invokevirtual 30, 0), (28, .istore 6, 0), (30, .iload 6, 0), (32, .iconst (-1), 0), (33, .if_icmp .eq 50, 83), (36, .aload_n 2, 0), (37, .iload 6, 0), (39, .invokevirtual 24, 0), (42, .ifCond .ne 41, 83)]), (66, [(45, .aload_n 0, 0), (46, .getfield 9, 0), (49, .iload 6, 0), (51, .iaload, 0), (52, .aload_n 0, 0), (53, .getfield 9, 0), (56, .iload_n 3, 0), (57, .iaload, 0), (58, .iconst 1, 0), (59, .isub, 0), (60, .if_icmp .eq 6, 66), (63, .goto 20, 83)]), (1000000, [(66, .iload 4, 0), (68, .iconst (-1), 0), (69, .if_icmp .eq 10, 79), (72, .iload 6, 0), (74, .iload 4, 0), (76, .if_icmp .ge 7, 83), (79, .iload 6, 0), (81, .istore 4, 0), (83, .iinc 5 1, 0), (86, .goto (-80), 6), (89, .iload 4, 0), (91, .ireturn, 0)])]
theorem ik_X10_firstStep : (i_X10_firstStep).all (fun q => q.2.all (pm_ckI cX10_firstStep)) = true := by decide +kernel
def i_X10_parts : List (Nat × List (Nat × Instr × Nat)) := [(21, [(0, .aload_n 2, 0), (1, .getfield 36, 0), (4, .lstore_n 3, 0), (5, .iconst 0, 0), (6, .istore 5, 0), (8, .iconst 0, 0), (9, .istore 6, 0), (11, .iload 6, 0), (13, .aload_n 1, 0), (14, .invokevirtual 40, 0), (17, .if_icmp .ge 72, 89), (20, .lload_n 3, 0)]), (40, [(21, .iload 6, 0), (23, .lushr, 0), (24, .lconst 1, 0), (25, .land, 0), (26, .lconst 0, 0), (27, .lcmp, 0), (28, .ifCond .eq 6, 34), (31, .goto 52, 83), (34, .iinc 5 1, 0), (37, .aload_n 0, 0), (38, .aload_n 1, 0), (39, .aload_n 2, 0)]), (63, [(40, .iload 6, 0), (42, .invokevirtual 44, 0), (45, .iconst 0, 0), (46, .istore 7, 0), (48, .iload 7, 0), (50, .bipush 36, 0), (52, .if_icmp .ge 31, 83), (55, .aload_n 0, 0), (56, .getfield 9, 0), (59, .iload 7, 0), (61, .iaload, 0), (62, .iconst (-1), 0)]), (86, [(63, .if_icmp .ne 7, 70), (66, .lload_n 3, 0), (67, .goto 9, 76), (70, .lload_n 3, 0), (71, .lconst 1, 0), (72, .iload 7, 0), (74, .lshl, 0), (75, .lor, 0), (76, .lstore_n 3, 0), (77, .iinc 7 1, 0), (80, .goto (-32), 48), (83, .iinc 6 1, 0)]), (1000000, [(86, .goto (-75), 11), (89, .iload 5, 0), (91, .ireturn, 0)])]
theorem ik_X10_parts : (i_X10_parts).all (fun q => q.2.all (pm_ckI cX10_parts)) = true := by decide +kernel
def i_X10_seenFrom : List (Nat × List (Nat × Instr × Nat)) := [(20, [(0, .aload_n 2, 0), (1, .iload_n 3, 0), (2, .invokevirtual 48, 0), (5, .istore 4, 0), (7, .iconst 1, 0), (8, .istore 5, 0), (10, .iload 5, 0), (12, .iconst 4, 0), (13, .if_icmp .gt 70, 83), (16, .aload_n 1, 0), (17, .iload_n 3, 0), (18, .iload 5, 0)]), (44, [(20, .invokevirtual 30, 0), (23, .istore 6, 0), (25, .iconst 0, 0), (26, .istore 7, 0), (28, .iload 7, 0), (30, .bipush 36, 0), (32, .if_icmp .ge 45, 77), (35, .iload 6, 0), (37, .iconst (-1), 0), (38, .if_icmp .eq 39, 77), (41, .aload_n 2, 0), (42, .iload 6, 0)]), (69, [(44, .invokevirtual 24, 0), (47, .ifCond .ne 30, 77), (50, .iload 4, 0), (52, .aload_n 2, 0), (53, .iload 6, 0), (55, .invokevirtual 48, 0), (58, .ior, 0), (59, .istore 4, 0), (61, .aload_n 1, 0), (62, .iload 6, 0), (64, .iload 5, 0), (66, .invokevirtual 30, 0)]), (1000000, [(69, .istore 6, 0), (71, .iinc 7 1, 0), (74, .goto (-46), 28), (77, .iinc 5 1, 0), (80, .goto (-70), 10), (83, .iload 4, 0), (85, .ireturn, 0)])]
theorem ik_X10_seenFrom : (i_X10_seenFrom).all (fun q => q.2.all (pm_ckI cX10_seenFrom)) = true := by decide +kernel
def i_X11_init : List (Nat × List (Nat × Instr × Nat)) := [(26, [(0, .aload_n 0, 0), (1, .invokespecial 1, 0), (4, .aload_n 0, 0), (5, .new 7, 0), (8, .dup, 0), (9, .invokespecial 9, 0), (12, .putfield 10, 0), (15, .aload_n 0, 0), (16, .new 16, 0), (19, .dup, 0), (20, .invokespecial 18, 0), (23, .putfield 19, 0)]), (49, [(26, .aload_n 0, 0), (27, .iconst (-1), 0), (28, .putfield 23, 0), (31, .aload_n 0, 0), (32, .iconst 3, 0), (33, .newarray .int, 0), (35, .putfield 27, 0), (38, .aload_n 0, 0), (39, .new 31, 0), (42, .dup, 0), (43, .invokespecial 33, 0), (46, .putfield 34, 0)]), (75, [(49, .aload_n 0, 0), (50, .new 31, 0), (53, .dup, 0), (54, .invokespecial 33, 0), (57, .putfield 38, 0), (60, .aload_n 0, 0), (61, .new 41, 0), (64, .dup, 0), (65, .invokespecial 43, 0), (68, .putfield 44, 0), (71, .aload_n 0, 0), (72, .new 48, 0)]), (101, [(75, .dup, 0), (76, .invokespecial 50, 0), (79, .putfield 51, 0), (82, .aload_n 0, 0), (83, .new 41, 0), (86, .dup, 0), (87, .invokespecial 43, 0), (90, .putfield 55, 0), (93, .aload_n 0, 0), (94, .new 48, 0), (97, .dup, 0), (98, .invokespecial 50, 0)]), (127, [(101, .putfield 58, 0), (104, .aload_n 0, 0), (105, .new 61, 0), (108, .dup, 0), (109, .invokespecial 63, 0), (112, .putfield 64, 0), (115, .aload_n 0, 0), (116, .new 41, 0), (119, .dup, 0), (120, .invokespecial 43, 0), (123, .putfield 68, 0), (126, .aload_n 0, 0)]), (153, [(127, .new 71, 0), (130, .dup, 0), (131, .invokespecial 73, 0), (134, .putfield 74, 0), (137, .aload_n 0, 0), (138, .new 78, 0), (141, .dup, 0), (142, .invokespecial 80, 0), (145, .putfield 81, 0), (148, .aload_n 0, 0), (149, .new 85, 0), (152, .dup, 0)]), (178, [(153, .invokespecial 87, 0), (156, .putfield 88, 0), (159, .aload_n 0, 0), (160, .bipush 36, 0), (162, .newarray .int, 0), (164, .putfield 92, 0), (167, .aload_n 0, 0), (168, .bipush 8, 0), (170, .newarray .int, 0), (172, .putfield 95, 0), (175, .aload_n 0, 0), (176, .bipush 8, 0)]), (1000000, [(178, .newarray .int, 0), (180, .putfield 98, 0), (183, .aload_n 0, 0), (184, .getfield 34, 0), (187, .invokevirtual 101, 0), (190, .aload_n 0, 0), (191, .getfield 44, 0), (194, .aload_n 0, 0), (195, .getfield 34, 0), (198, .invokevirtual 104, 0), (201, .return_, 0)])]
theorem ik_X11_init : (i_X11_init).all (fun q => q.2.all (pm_ckI cX11_init)) = true := by decide +kernel
def i_X11_feed : List (Nat × List (Nat × Instr × Nat)) := [(23, [(0, .aload_n 0, 0), (1, .getfield 10, 0), (4, .getfield 108, 0), (7, .bipush 20, 0), (9, .iadd, 0), (10, .sipush 700, 0), (13, .if_icmp .le 5, 18), (16, .iconst (-1), 0), (17, .ireturn, 0), (18, .aload_n 0, 0), (19, .getfield 10, 0), (22, .iload_n 1, 0)]), (48, [(23, .invokevirtual 111, 0), (26, .aload_n 0, 0), (27, .getfield 10, 0), (30, .iload_n 2, 0), (31, .invokevirtual 111, 0), (34, .aload_n 0, 0), (35, .getfield 10, 0), (38, .iload_n 3, 0), (39, .invokevirtual 111, 0), (42, .aload_n 0, 0), (43, .getfield 10, 0), (46, .iload 4, 0)]), (1000000, [(48, .invokevirtual 111, 0), (51, .aload_n 0, 0), (52, .getfield 10, 0), (55, .iload 5, 0), (57, .invokevirtual 111, 0), (60, .aload_n 0, 0), (61, .getfield 10, 0), (64, .getfield 108, 0), (67, .ireturn, 0)])]
theorem ik_X11_feed : (i_X11_feed).all (fun q => q.2.all (pm_ckI cX11_feed)) = true := by decide +kernel
def i_X11_town : List (Nat × List (Nat × Instr × Nat)) := [(25, [(0, .iload_n 1, 0), (1, .ifCond .lt 14, 15), (4, .iload_n 1, 0), (5, .aload_n 0, 0), (6, .getfield 10, 0), (9, .getfield 108, 0), (12, .if_icmp .le 13, 25), (15, .new 115, 0), (18, .dup, 0), (19, .ldc 117, 0), (21, .invokespecial 119, 0), (24, .athrow, 0)]), (47, [(25, .aload_n 0, 0), (26, .getfield 19, 0), (29, .aload_n 0, 0), (30, .getfield 10, 0), (33, .iload_n 1, 0), (34, .aload_n 0, 0), (35, .getfield 38, 0), (38, .invokevirtual 122, 0), (41, .istore_n 2, 0), (42, .aload_n 0, 0), (43, .getfield 10, 0), (46, .iconst 0, 0)]), (71, [(47, .putfield 108, 0), (50, .iload_n 2, 0), (51, .ifCond .eq 26, 77), (54, .aload_n 0, 0), (55, .aload_n 0, 0), (56, .getfield 10, 0), (59, .getfield 126, 0), (62, .putfield 23, 0), (65, .aload_n 0, 0), (66, .getfield 27, 0), (69, .iconst 0, 0), (70, .dup2, 0)]), (87, [(71, .iaload, 0), (72, .iconst 1, 0), (73, .iadd, 0), (74, .iastore, 0), (75, .iload_n 2, 0), (76, .ireturn, 0), (77, .aload_n 0, 0), (78, .iconst (-1), 0), (79, .putfield 23, 0), (82, .aload_n 0, 0), (83, .getfield 34, 0), (86, .astore_n 3, 0)]), (111, [(87, .aload_n 0, 0), (88, .aload_n 0, 0), (89, .getfield 38, 0), (92, .putfield 34, 0), (95, .aload_n 0, 0), (96, .aload_n 3, 0), (97, .putfield 38, 0), (100, .aload_n 0, 0), (101, .getfield 44, 0), (104, .aload_n 0, 0), (105, .getfield 34, 0), (108, .invokevirtual 104, 0)]), (1000000, [(111, .aload_n 0, 0), (112, .getfield 51, 0), (115, .invokevirtual 129, 0), (118, .aload_n 0, 0), (119, .getfield 51, 0), (122, .invokevirtual 132, 0), (125, .aload_n 0, 0), (126, .iconst 0, 0), (127, .putfield 135, 0), (130, .iconst 0, 0), (131, .ireturn, 0)])]
theorem ik_X11_town : (i_X11_town).all (fun q => q.2.all (pm_ckI cX11_town)) = true := by decide +kernel
def i_X11_fault : List (Nat × List (Nat × Instr × Nat)) := [(1000000, [(0, .aload_n 0, 0), (1, .getfield 23, 0), (4, .ireturn, 0)])]
theorem ik_X11_fault : (i_X11_fault).all (fun q => q.2.all (pm_ckI cX11_fault)) = true := by decide +kernel
def i_X11_count : List (Nat × List (Nat × Instr × Nat)) := [(108, [(0, .iload_n 1, 0), (1, .tableswitch 261 0 17 #[87, 95, 103, 111, 119, 127, 142, 165, 173, 184, 200, 208, 216, 224, 232, 240, 247, 254], 0), (88, .aload_n 0, 0), (89, .getfield 34, 0), (92, .getfield 139, 0), (95, .ireturn, 0), (96, .aload_n 0, 0), (97, .getfield 34, 0), (100, .getfield 142, 0), (103, .ireturn, 0), (104, .aload_n 0, 0), (105, .getfield 34, 0)]), (132, [(108, .getfield 145, 0), (111, .ireturn, 0), (112, .aload_n 0, 0), (113, .getfield 34, 0), (116, .getfield 148, 0), (119, .ireturn, 0), (120, .aload_n 0, 0), (121, .getfield 44, 0), (124, .getfield 151, 0), (127, .ireturn, 0), (128, .aload_n 0, 0), (129, .getfield 34, 0)]), (160, [(132, .aload_n 0, 0), (133, .getfield 44, 0), (136, .getfield 151, 0), (139, .invokevirtual 154, 0), (142, .ireturn, 0), (143, .aload_n 0, 0), (144, .getfield 34, 0), (147, .aload_n 0, 0), (148, .getfield 44, 0), (151, .getfield 151, 0), (154, .invokevirtual 158, 0), (157, .ifCond .eq 7, 164)]), (184, [(160, .iconst 1, 0), (161, .goto 4, 165), (164, .iconst 0, 0), (165, .ireturn, 0), (166, .aload_n 0, 0), (167, .getfield 44, 0), (170, .getfield 162, 0), (173, .ireturn, 0), (174, .aload_n 0, 0), (175, .getfield 44, 0), (178, .getfield 165, 0), (181, .invokestatic 169, 0)]), (208, [(184, .ireturn, 0), (185, .aload_n 0, 0), (186, .getfield 74, 0), (189, .aload_n 0, 0), (190, .getfield 34, 0), (193, .aload_n 0, 0), (194, .getfield 44, 0), (197, .invokevirtual 175, 0), (200, .ireturn, 0), (201, .aload_n 0, 0), (202, .getfield 44, 0), (205, .invokevirtual 179, 0)]), (232, [(208, .ireturn, 0), (209, .aload_n 0, 0), (210, .getfield 44, 0), (213, .invokevirtual 183, 0), (216, .ireturn, 0), (217, .aload_n 0, 0), (218, .getfield 51, 0), (221, .getfield 186, 0), (224, .ireturn, 0), (225, .aload_n 0, 0), (226, .getfield 51, 0), (229, .getfield 189, 0)]), (252, [(232, .ireturn, 0), (233, .aload_n 0, 0), (234, .getfield 10, 0), (237, .getfield 108, 0), (240, .ireturn, 0), (241, .aload_n 0, 0), (242, .getfield 27, 0), (245, .iconst 0, 0), (246, .iaload, 0), (247, .ireturn, 0), (248, .aload_n 0, 0), (249, .getfield 27, 0)]), (271, [(252, .iconst 1, 0), (253, .iaload, 0), (254, .ireturn, 0), (255, .aload_n 0, 0), (256, .getfield 27, 0), (259, .iconst 2, 0), (260, .iaload, 0), (261, .ireturn, 0), (262, .new 192, 0), (265, .dup, 0), (266, .ldc 194, 0), (268, .invokespecial 196, 0)]), (1000000, [(271, .athrow, 0)])]
theorem ik_X11_count : (i_X11_count).all (fun q => q.2.all (pm_ckI cX11_count)) = true := by decide +kernel
def i_X11_figure : List (Nat × List (Nat × Instr × Nat)) := [(59, [(0, .aload_n 0, 0), (1, .iload_n 1, 0), (2, .invokevirtual 197, 0), (5, .iload_n 2, 0), (6, .tableswitch 127 0 6 #[42, 52, 62, 72, 82, 108, 118], 0), (48, .aload_n 0, 0), (49, .getfield 44, 0), (52, .getfield 200, 0), (55, .iload_n 1, 0), (56, .iaload, 0), (57, .ireturn, 0), (58, .aload_n 0, 0)]), (79, [(59, .getfield 34, 0), (62, .getfield 203, 0), (65, .iload_n 1, 0), (66, .iaload, 0), (67, .ireturn, 0), (68, .aload_n 0, 0), (69, .getfield 44, 0), (72, .getfield 206, 0), (75, .iload_n 1, 0), (76, .iaload, 0), (77, .ireturn, 0), (78, .aload_n 0, 0)]), (101, [(79, .getfield 44, 0), (82, .getfield 209, 0), (85, .iload_n 1, 0), (86, .iaload, 0), (87, .ireturn, 0), (88, .aload_n 0, 0), (89, .getfield 34, 0), (92, .iload_n 1, 0), (93, .aload_n 0, 0), (94, .getfield 44, 0), (97, .getfield 151, 0), (100, .aload_n 0, 0)]), (123, [(101, .getfield 44, 0), (104, .getfield 212, 0), (107, .iload_n 1, 0), (108, .iaload, 0), (109, .iadd, 0), (110, .invokevirtual 215, 0), (113, .ireturn, 0), (114, .aload_n 0, 0), (115, .getfield 44, 0), (118, .getfield 212, 0), (121, .iload_n 1, 0), (122, .iaload, 0)]), (1000000, [(123, .ireturn, 0), (124, .aload_n 0, 0), (125, .getfield 44, 0), (128, .iload_n 1, 0), (129, .invokevirtual 219, 0), (132, .ireturn, 0), (133, .new 192, 0), (136, .dup, 0), (137, .ldc 222, 0), (139, .invokespecial 196, 0), (142, .athrow, 0)])]
theorem ik_X11_figure : (i_X11_figure).all (fun q => q.2.all (pm_ckI cX11_figure)) = true := by decide +kernel
def i_X11_cell : List (Nat × List (Nat × Instr × Nat)) := [(51, [(0, .aload_n 0, 0), (1, .iload_n 1, 0), (2, .invokevirtual 224, 0), (5, .iload_n 2, 0), (6, .tableswitch 82 0 3 #[30, 47, 56, 65], 0), (36, .aload_n 0, 0), (37, .getfield 44, 0), (40, .iload_n 1, 0), (41, .invokevirtual 227, 0), (44, .ifCond .eq 7, 51), (47, .iconst 1, 0), (48, .goto 4, 52)]), (71, [(51, .iconst 0, 0), (52, .ireturn, 0), (53, .aload_n 0, 0), (54, .getfield 44, 0), (57, .iload_n 1, 0), (58, .invokevirtual 230, 0), (61, .ireturn, 0), (62, .aload_n 0, 0), (63, .getfield 34, 0), (66, .iload_n 1, 0), (67, .invokevirtual 233, 0), (70, .ireturn, 0)]), (94, [(71, .aload_n 0, 0), (72, .getfield 74, 0), (75, .aload_n 0, 0), (76, .getfield 34, 0), (79, .aload_n 0, 0), (80, .getfield 44, 0), (83, .iload_n 1, 0), (84, .invokevirtual 236, 0), (87, .ireturn, 0), (88, .new 192, 0), (91, .dup, 0), (92, .ldc 240, 0)]), (1000000, [(94, .invokespecial 196, 0), (97, .athrow, 0)])]
theorem ik_X11_cell : (i_X11_cell).all (fun q => q.2.all (pm_ckI cX11_cell)) = true := by decide +kernel
def i_X11_hours : List (Nat × List (Nat × Instr × Nat)) := [(23, [(0, .iload_n 1, 0), (1, .iconst 1, 0), (2, .if_icmp .lt 24, 26), (5, .iload_n 1, 0), (6, .bipush 20, 0), (8, .if_icmp .gt 18, 26), (11, .aload_n 0, 0), (12, .getfield 44, 0), (15, .getfield 151, 0), (18, .iload_n 1, 0), (19, .iadd, 0), (20, .sipush 9999, 0)]), (47, [(23, .if_icmp .le 8, 31), (26, .aload_n 0, 0), (27, .invokevirtual 242, 0), (30, .ireturn, 0), (31, .aload_n 0, 0), (32, .getfield 51, 0), (35, .aload_n 0, 0), (36, .getfield 44, 0), (39, .invokevirtual 245, 0), (42, .aload_n 0, 0), (43, .getfield 64, 0), (46, .aload_n 0, 0)]), (1000000, [(47, .getfield 34, 0), (50, .aload_n 0, 0), (51, .getfield 44, 0), (54, .iload_n 1, 0), (55, .invokevirtual 249, 0), (58, .aload_n 0, 0), (59, .getfield 44, 0), (62, .getfield 151, 0), (65, .ireturn, 0)])]
theorem ik_X11_hours : (i_X11_hours).all (fun q => q.2.all (pm_ckI cX11_hours)) = true := by decide +kernel
def i_X11_stop : List (Nat × List (Nat × Instr × Nat)) := [(24, [(0, .aload_n 0, 0), (1, .iload_n 1, 0), (2, .invokevirtual 197, 0), (5, .aload_n 0, 0), (6, .getfield 34, 0), (9, .aload_n 0, 0), (10, .getfield 44, 0), (13, .getfield 151, 0), (16, .invokevirtual 158, 0), (19, .ifCond .ne 14, 33), (22, .iload_n 2, 0), (23, .iconst 1, 0)]), (49, [(24, .if_icmp .lt 9, 33), (27, .iload_n 2, 0), (28, .bipush 9, 0), (30, .if_icmp .le 8, 38), (33, .aload_n 0, 0), (34, .invokevirtual 242, 0), (37, .ireturn, 0), (38, .aload_n 0, 0), (39, .getfield 51, 0), (42, .aload_n 0, 0), (43, .getfield 44, 0), (46, .invokevirtual 245, 0)]), (71, [(49, .aload_n 0, 0), (50, .getfield 44, 0), (53, .getfield 209, 0), (56, .iload_n 1, 0), (57, .iload_n 2, 0), (58, .iastore, 0), (59, .aload_n 0, 0), (60, .iconst 1, 0), (61, .invokevirtual 253, 0), (64, .aload_n 0, 0), (65, .getfield 44, 0), (68, .getfield 162, 0)]), (1000000, [(71, .ireturn, 0)])]
theorem ik_X11_stop : (i_X11_stop).all (fun q => q.2.all (pm_ckI cX11_stop)) = true := by decide +kernel
def i_X11_lift : List (Nat × List (Nat × Instr × Nat)) := [(20, [(0, .aload_n 0, 0), (1, .iload_n 1, 0), (2, .invokevirtual 197, 0), (5, .aload_n 0, 0), (6, .iload_n 2, 0), (7, .invokevirtual 224, 0), (10, .aload_n 0, 0), (11, .getfield 44, 0), (14, .getfield 200, 0), (17, .iload_n 1, 0), (18, .iaload, 0), (19, .istore_n 3, 0)]), (46, [(20, .aload_n 0, 0), (21, .getfield 34, 0), (24, .aload_n 0, 0), (25, .getfield 44, 0), (28, .getfield 151, 0), (31, .invokevirtual 158, 0), (34, .ifCond .ne 19, 53), (37, .iload_n 3, 0), (38, .iload_n 2, 0), (39, .if_icmp .eq 14, 53), (42, .aload_n 0, 0), (43, .getfield 44, 0)]), (70, [(46, .iload_n 2, 0), (47, .invokevirtual 227, 0), (50, .ifCond .eq 8, 58), (53, .aload_n 0, 0), (54, .invokevirtual 242, 0), (57, .ireturn, 0), (58, .aload_n 0, 0), (59, .getfield 51, 0), (62, .aload_n 0, 0), (63, .getfield 44, 0), (66, .invokevirtual 245, 0), (69, .aload_n 0, 0)]), (90, [(70, .getfield 44, 0), (73, .getfield 200, 0), (76, .iload_n 1, 0), (77, .iload_n 2, 0), (78, .iastore, 0), (79, .aload_n 0, 0), (80, .getfield 44, 0), (83, .getfield 209, 0), (86, .iload_n 1, 0), (87, .iconst 0, 0), (88, .iastore, 0), (89, .aload_n 0, 0)]), (1000000, [(90, .iconst 3, 0), (91, .invokevirtual 253, 0), (94, .iload_n 3, 0), (95, .ireturn, 0)])]
theorem ik_X11_lift : (i_X11_lift).all (fun q => q.2.all (pm_ckI cX11_lift)) = true := by decide +kernel
def i_X11_brush : List (Nat × List (Nat × Instr × Nat)) := [(20, [(0, .aload_n 0, 0), (1, .iload_n 1, 0), (2, .invokevirtual 197, 0), (5, .aload_n 0, 0), (6, .getfield 44, 0), (9, .getfield 206, 0), (12, .iload_n 1, 0), (13, .iaload, 0), (14, .istore_n 2, 0), (15, .iload_n 2, 0), (16, .ifCond .ne 8, 24), (19, .aload_n 0, 0)]), (44, [(20, .invokevirtual 242, 0), (23, .ireturn, 0), (24, .aload_n 0, 0), (25, .getfield 51, 0), (28, .aload_n 0, 0), (29, .getfield 44, 0), (32, .invokevirtual 245, 0), (35, .aload_n 0, 0), (36, .getfield 44, 0), (39, .getfield 206, 0), (42, .iload_n 1, 0), (43, .iconst 0, 0)]), (1000000, [(44, .iastore, 0), (45, .iload_n 2, 0), (46, .ireturn, 0)])]
theorem ik_X11_brush : (i_X11_brush).all (fun q => q.2.all (pm_ckI cX11_brush)) = true := by decide +kernel
def i_X11_wall : List (Nat × List (Nat × Instr × Nat)) := [(22, [(0, .aload_n 0, 0), (1, .iload_n 1, 0), (2, .invokevirtual 224, 0), (5, .aload_n 0, 0), (6, .getfield 44, 0), (9, .iload_n 1, 0), (10, .invokevirtual 227, 0), (13, .iload_n 2, 0), (14, .if_icmp .eq 25, 39), (17, .aload_n 0, 0), (18, .getfield 44, 0), (21, .iload_n 1, 0)]), (46, [(22, .invokevirtual 230, 0), (25, .ifCond .ne 14, 39), (28, .aload_n 0, 0), (29, .getfield 34, 0), (32, .iload_n 1, 0), (33, .invokevirtual 233, 0), (36, .ifCond .eq 10, 46), (39, .aload_n 0, 0), (40, .invokevirtual 242, 0), (43, .pop, 0), (44, .iconst 0, 0), (45, .ireturn, 0)]), (70, [(46, .aload_n 0, 0), (47, .getfield 51, 0), (50, .aload_n 0, 0), (51, .getfield 44, 0), (54, .invokevirtual 245, 0), (57, .aload_n 0, 0), (58, .getfield 44, 0), (61, .aload_n 0, 0), (62, .getfield 44, 0), (65, .getfield 165, 0), (68, .lconst 1, 0), (69, .iload_n 1, 0)]), (1000000, [(70, .lshl, 0), (71, .lxor, 0), (72, .putfield 165, 0), (75, .iconst 1, 0), (76, .ireturn, 0)])]
theorem ik_X11_wall : (i_X11_wall).all (fun q => q.2.all (pm_ckI cX11_wall)) = true := by decide +kernel
def i_X11_undo : List (Nat × List (Nat × Instr × Nat)) := [(24, [(0, .aload_n 0, 0), (1, .getfield 51, 0), (4, .getfield 186, 0), (7, .ifCond .ne 5, 12), (10, .iconst (-1), 0), (11, .ireturn, 0), (12, .aload_n 0, 0), (13, .getfield 51, 0), (16, .aload_n 0, 0), (17, .getfield 44, 0), (20, .invokevirtual 256, 0), (23, .aload_n 0, 0)]), (1000000, [(24, .getfield 51, 0), (27, .getfield 186, 0), (30, .ireturn, 0)])]
theorem ik_X11_undo : (i_X11_undo).all (fun q => q.2.all (pm_ckI cX11_undo)) = true := by decide +kernel
def i_X11_then : List (Nat × List (Nat × Instr × Nat)) := [(19, [(0, .aload_n 0, 0), (1, .iload_n 1, 0), (2, .invokevirtual 197, 0), (5, .iload_n 3, 0), (6, .iconst 2, 0), (7, .invokestatic 259, 0), (10, .iload_n 2, 0), (11, .iconst 0, 0), (12, .bipush 100, 0), (14, .invokestatic 263, 0), (17, .aload_n 0, 0), (18, .iload_n 2, 0)]), (41, [(19, .invokevirtual 267, 0), (22, .iload_n 3, 0), (23, .ifCond .ne 13, 36), (26, .aload_n 0, 0), (27, .getfield 68, 0), (30, .getfield 200, 0), (33, .iload_n 1, 0), (34, .iaload, 0), (35, .ireturn, 0), (36, .iload_n 3, 0), (37, .iconst 1, 0), (38, .if_icmp .ne 15, 53)]), (1000000, [(41, .aload_n 0, 0), (42, .getfield 68, 0), (45, .getfield 206, 0), (48, .iload_n 1, 0), (49, .iaload, 0), (50, .goto 12, 62), (53, .aload_n 0, 0), (54, .getfield 68, 0), (57, .getfield 209, 0), (60, .iload_n 1, 0), (61, .iaload, 0), (62, .ireturn, 0)])]
theorem ik_X11_then : (i_X11_then).all (fun q => q.2.all (pm_ckI cX11_then)) = true := by decide +kernel
def i_X11_comes : List (Nat × List (Nat × Instr × Nat)) := [(18, [(0, .aload_n 0, 0), (1, .iload_n 1, 0), (2, .invokevirtual 197, 0), (5, .aload_n 0, 0), (6, .iload_n 2, 0), (7, .invokevirtual 224, 0), (10, .aload_n 0, 0), (11, .iconst 0, 0), (12, .invokevirtual 267, 0), (15, .iconst 0, 0), (16, .istore_n 3, 0), (17, .iload_n 3, 0)]), (39, [(18, .bipush 100, 0), (20, .if_icmp .gt 28, 48), (23, .aload_n 0, 0), (24, .getfield 68, 0), (27, .getfield 200, 0), (30, .iload_n 1, 0), (31, .iaload, 0), (32, .iload_n 2, 0), (33, .if_icmp .ne 5, 38), (36, .iload_n 3, 0), (37, .ireturn, 0), (38, .aload_n 0, 0)]), (1000000, [(39, .invokevirtual 270, 0), (42, .iinc 3 1, 0), (45, .goto (-28), 17), (48, .iconst (-1), 0), (49, .ireturn, 0)])]
theorem ik_X11_comes : (i_X11_comes).all (fun q => q.2.all (pm_ckI cX11_comes)) = true := by decide +kernel
def i_X11_meet : List (Nat × List (Nat × Instr × Nat)) := [(18, [(0, .aload_n 0, 0), (1, .iload_n 1, 0), (2, .invokevirtual 197, 0), (5, .aload_n 0, 0), (6, .iload_n 2, 0), (7, .invokevirtual 197, 0), (10, .iload_n 1, 0), (11, .iload_n 2, 0), (12, .if_icmp .ne 5, 17), (15, .iconst (-1), 0), (16, .ireturn, 0), (17, .aload_n 0, 0)]), (39, [(18, .iconst 0, 0), (19, .invokevirtual 267, 0), (22, .iconst 0, 0), (23, .istore_n 3, 0), (24, .iload_n 3, 0), (25, .bipush 100, 0), (27, .if_icmp .gt 36, 63), (30, .aload_n 0, 0), (31, .getfield 68, 0), (34, .getfield 200, 0), (37, .iload_n 1, 0), (38, .iaload, 0)]), (63, [(39, .aload_n 0, 0), (40, .getfield 68, 0), (43, .getfield 200, 0), (46, .iload_n 2, 0), (47, .iaload, 0), (48, .if_icmp .ne 5, 53), (51, .iload_n 3, 0), (52, .ireturn, 0), (53, .aload_n 0, 0), (54, .invokevirtual 270, 0), (57, .iinc 3 1, 0), (60, .goto (-36), 24)]), (1000000, [(63, .iconst (-1), 0), (64, .ireturn, 0)])]
theorem ik_X11_meet : (i_X11_meet).all (fun q => q.2.all (pm_ckI cX11_meet)) = true := by decide +kernel
def i_X11_crowd : List (Nat × List (Nat × Instr × Nat)) := [(19, [(0, .iload_n 2, 0), (1, .iconst 1, 0), (2, .invokestatic 259, 0), (5, .iload_n 1, 0), (6, .iconst 0, 0), (7, .bipush 100, 0), (9, .invokestatic 263, 0), (12, .aload_n 0, 0), (13, .iload_n 1, 0), (14, .invokevirtual 267, 0), (17, .iconst 0, 0), (18, .istore_n 3, 0)]), (43, [(19, .iconst (-1), 0), (20, .istore 4, 0), (22, .iconst 0, 0), (23, .istore 5, 0), (25, .iload 5, 0), (27, .aload_n 0, 0), (28, .getfield 34, 0), (31, .invokevirtual 273, 0), (34, .if_icmp .ge 36, 70), (37, .aload_n 0, 0), (38, .getfield 68, 0), (41, .iload 5, 0)]), (70, [(43, .invokevirtual 230, 0), (46, .invokestatic 276, 0), (49, .istore 6, 0), (51, .iload 6, 0), (53, .iload_n 3, 0), (54, .if_icmp .le 10, 64), (57, .iload 6, 0), (59, .istore_n 3, 0), (60, .iload 5, 0), (62, .istore 4, 0), (64, .iinc 5 1, 0), (67, .goto (-42), 25)]), (1000000, [(70, .iload_n 2, 0), (71, .ifCond .ne 7, 78), (74, .iload_n 3, 0), (75, .goto 5, 80), (78, .iload 4, 0), (80, .ireturn, 0)])]
theorem ik_X11_crowd : (i_X11_crowd).all (fun q => q.2.all (pm_ckI cX11_crowd)) = true := by decide +kernel
def i_X11_round : List (Nat × List (Nat × Instr × Nat)) := [(22, [(0, .aload_n 0, 0), (1, .iconst 0, 0), (2, .invokevirtual 267, 0), (5, .iconst 1, 0), (6, .istore_n 1, 0), (7, .iload_n 1, 0), (8, .sipush 200, 0), (11, .if_icmp .gt 29, 40), (14, .aload_n 0, 0), (15, .invokevirtual 270, 0), (18, .aload_n 0, 0), (19, .getfield 68, 0)]), (1000000, [(22, .aload_n 0, 0), (23, .getfield 44, 0), (26, .invokevirtual 280, 0), (29, .ifCond .eq 5, 34), (32, .iload_n 1, 0), (33, .ireturn, 0), (34, .iinc 1 1, 0), (37, .goto (-30), 7), (40, .iconst (-1), 0), (41, .ireturn, 0)])]
theorem ik_X11_round : (i_X11_round).all (fun q => q.2.all (pm_ckI cX11_round)) = true := by decide +kernel
def i_X11_spread : List (Nat × List (Nat × Instr × Nat)) := [(19, [(0, .aload_n 0, 0), (1, .iload_n 1, 0), (2, .invokevirtual 197, 0), (5, .iload_n 2, 0), (6, .iconst 0, 0), (7, .bipush 100, 0), (9, .invokestatic 263, 0), (12, .aload_n 0, 0), (13, .iconst 0, 0), (14, .invokevirtual 267, 0), (17, .lconst 1, 0), (18, .aload_n 0, 0)]), (39, [(19, .getfield 68, 0), (22, .getfield 200, 0), (25, .iload_n 1, 0), (26, .iaload, 0), (27, .lshl, 0), (28, .lstore_n 3, 0), (29, .iconst 1, 0), (30, .istore 5, 0), (32, .iload 5, 0), (34, .iload_n 2, 0), (35, .if_icmp .gt 27, 62), (38, .aload_n 0, 0)]), (59, [(39, .invokevirtual 270, 0), (42, .lload_n 3, 0), (43, .lconst 1, 0), (44, .aload_n 0, 0), (45, .getfield 68, 0), (48, .getfield 200, 0), (51, .iload_n 1, 0), (52, .iaload, 0), (53, .lshl, 0), (54, .lor, 0), (55, .lstore_n 3, 0), (56, .iinc 5 1, 0)]), (1000000, [(59, .goto (-27), 32), (62, .lload_n 3, 0), (63, .invokestatic 169, 0), (66, .ireturn, 0)])]
theorem ik_X11_spread : (i_X11_spread).all (fun q => q.2.all (pm_ckI cX11_spread)) = true := by decide +kernel
def i_X11_way : List (Nat × List (Nat × Instr × Nat)) := [(20, [(0, .aload_n 0, 0), (1, .iload_n 1, 0), (2, .invokevirtual 224, 0), (5, .aload_n 0, 0), (6, .iload_n 2, 0), (7, .invokevirtual 224, 0), (10, .iload_n 3, 0), (11, .iconst 1, 0), (12, .invokestatic 259, 0), (15, .aload_n 0, 0), (16, .getfield 74, 0), (19, .aload_n 0, 0)]), (44, [(20, .getfield 34, 0), (23, .aload_n 0, 0), (24, .getfield 44, 0), (27, .iload_n 2, 0), (28, .invokevirtual 284, 0), (31, .iload_n 3, 0), (32, .ifCond .ne 15, 47), (35, .aload_n 0, 0), (36, .getfield 74, 0), (39, .getfield 287, 0), (42, .iload_n 1, 0), (43, .iaload, 0)]), (1000000, [(44, .goto 19, 63), (47, .aload_n 0, 0), (48, .getfield 74, 0), (51, .aload_n 0, 0), (52, .getfield 34, 0), (55, .aload_n 0, 0), (56, .getfield 44, 0), (59, .iload_n 1, 0), (60, .invokevirtual 290, 0), (63, .ireturn, 0)])]
theorem ik_X11_way : (i_X11_way).all (fun q => q.2.all (pm_ckI cX11_way)) = true := by decide +kernel
def i_X11_toStop : List (Nat × List (Nat × Instr × Nat)) := [(20, [(0, .aload_n 0, 0), (1, .iload_n 1, 0), (2, .invokevirtual 197, 0), (5, .aload_n 0, 0), (6, .iload_n 2, 0), (7, .invokevirtual 224, 0), (10, .iload_n 3, 0), (11, .iconst 0, 0), (12, .bipush 100, 0), (14, .invokestatic 263, 0), (17, .iconst 0, 0), (18, .istore 4, 0)]), (46, [(20, .iload 4, 0), (22, .bipush 9, 0), (24, .if_icmp .gt 63, 87), (27, .aload_n 0, 0), (28, .getfield 68, 0), (31, .aload_n 0, 0), (32, .getfield 44, 0), (35, .invokevirtual 293, 0), (38, .aload_n 0, 0), (39, .getfield 68, 0), (42, .getfield 209, 0), (45, .iload_n 1, 0)]), (69, [(46, .iload 4, 0), (48, .iastore, 0), (49, .aload_n 0, 0), (50, .getfield 64, 0), (53, .aload_n 0, 0), (54, .getfield 34, 0), (57, .aload_n 0, 0), (58, .getfield 68, 0), (61, .iload_n 3, 0), (62, .invokevirtual 249, 0), (65, .aload_n 0, 0), (66, .getfield 68, 0)]), (1000000, [(69, .getfield 200, 0), (72, .iload_n 1, 0), (73, .iaload, 0), (74, .iload_n 2, 0), (75, .if_icmp .ne 6, 81), (78, .iload 4, 0), (80, .ireturn, 0), (81, .iinc 4 1, 0), (84, .goto (-64), 20), (87, .iconst (-1), 0), (88, .ireturn, 0)])]
theorem ik_X11_toStop : (i_X11_toStop).all (fun q => q.2.all (pm_ckI cX11_toStop)) = true := by decide +kernel
def i_X11_toThin : List (Nat × List (Nat × Instr × Nat)) := [(21, [(0, .iload_n 1, 0), (1, .iconst 0, 0), (2, .bipush 60, 0), (4, .invokestatic 263, 0), (7, .aload_n 0, 0), (8, .getfield 95, 0), (11, .iconst 0, 0), (12, .invokestatic 296, 0), (15, .aload_n 0, 0), (16, .iconst 0, 0), (17, .invokevirtual 267, 0), (20, .aload_n 0, 0)]), (45, [(21, .invokevirtual 302, 0), (24, .iconst 1, 0), (25, .istore_n 2, 0), (26, .iload_n 2, 0), (27, .iload_n 1, 0), (28, .if_icmp .gt 17, 45), (31, .aload_n 0, 0), (32, .invokevirtual 270, 0), (35, .aload_n 0, 0), (36, .invokevirtual 302, 0), (39, .iinc 2 1, 0), (42, .goto (-16), 26)]), (63, [(45, .iconst 1, 0), (46, .aload_n 0, 0), (47, .getfield 34, 0), (50, .getfield 139, 0), (53, .ishl, 0), (54, .iconst 1, 0), (55, .isub, 0), (56, .istore_n 2, 0), (57, .iload_n 2, 0), (58, .istore_n 3, 0), (59, .iload_n 3, 0), (60, .ifCond .lt 30, 90)]), (87, [(63, .iload_n 3, 0), (64, .invokestatic 276, 0), (67, .iload_n 2, 0), (68, .invokestatic 276, 0), (71, .if_icmp .gt 13, 84), (74, .aload_n 0, 0), (75, .iload_n 3, 0), (76, .invokevirtual 305, 0), (79, .ifCond .eq 5, 84), (82, .iload_n 3, 0), (83, .istore_n 2, 0), (84, .iinc 3 (-1), 0)]), (1000000, [(87, .goto (-28), 59), (90, .iload_n 2, 0), (91, .ireturn, 0)])]
theorem ik_X11_toThin : (i_X11_toThin).all (fun q => q.2.all (pm_ckI cX11_toThin)) = true := by decide +kernel
def i_X11_seats : List (Nat × List (Nat × Instr × Nat)) := [(24, [(0, .iload_n 1, 0), (1, .iconst 1, 0), (2, .invokestatic 259, 0), (5, .aload_n 0, 0), (6, .getfield 81, 0), (9, .aload_n 0, 0), (10, .getfield 34, 0), (13, .aload_n 0, 0), (14, .getfield 44, 0), (17, .aload_n 0, 0), (18, .getfield 74, 0), (21, .invokevirtual 308, 0)]), (1000000, [(24, .iload_n 1, 0), (25, .ifCond .ne 13, 38), (28, .aload_n 0, 0), (29, .getfield 81, 0), (32, .getfield 311, 0), (35, .goto 10, 45), (38, .aload_n 0, 0), (39, .getfield 81, 0), (42, .getfield 314, 0), (45, .ireturn, 0)])]
theorem ik_X11_seats : (i_X11_seats).all (fun q => q.2.all (pm_ckI cX11_seats)) = true := by decide +kernel
def i_X11_seat : List (Nat × List (Nat × Instr × Nat)) := [(24, [(0, .aload_n 0, 0), (1, .iload_n 1, 0), (2, .invokevirtual 197, 0), (5, .aload_n 0, 0), (6, .getfield 81, 0), (9, .aload_n 0, 0), (10, .getfield 34, 0), (13, .aload_n 0, 0), (14, .getfield 44, 0), (17, .aload_n 0, 0), (18, .getfield 74, 0), (21, .invokevirtual 308, 0)]), (1000000, [(24, .aload_n 0, 0), (25, .getfield 81, 0), (28, .getfield 316, 0), (31, .iload_n 1, 0), (32, .iaload, 0), (33, .ireturn, 0)])]
theorem ik_X11_seat : (i_X11_seat).all (fun q => q.2.all (pm_ckI cX11_seat)) = true := by decide +kernel
def i_X11_note : List (Nat × List (Nat × Instr × Nat)) := [(23, [(0, .aload_n 0, 0), (1, .iload_n 1, 0), (2, .invokevirtual 197, 0), (5, .aload_n 0, 0), (6, .iload_n 2, 0), (7, .invokevirtual 224, 0), (10, .aload_n 0, 0), (11, .getfield 51, 0), (14, .getfield 189, 0), (17, .bipush 8, 0), (19, .if_icmp .ge 13, 32), (22, .iload_n 3, 0)]), (42, [(23, .ifCond .lt 9, 32), (26, .iload_n 3, 0), (27, .bipush 20, 0), (29, .if_icmp .le 15, 44), (32, .aload_n 0, 0), (33, .getfield 27, 0), (36, .iconst 2, 0), (37, .dup2, 0), (38, .iaload, 0), (39, .iconst 1, 0), (40, .iadd, 0), (41, .iastore, 0)]), (1000000, [(42, .iconst (-1), 0), (43, .ireturn, 0), (44, .aload_n 0, 0), (45, .getfield 51, 0), (48, .iload_n 1, 0), (49, .iload_n 2, 0), (50, .iload_n 3, 0), (51, .invokevirtual 319, 0), (54, .aload_n 0, 0), (55, .getfield 51, 0), (58, .getfield 189, 0), (61, .ireturn, 0)])]
theorem ik_X11_note : (i_X11_note).all (fun q => q.2.all (pm_ckI cX11_note)) = true := by decide +kernel
def i_X11_forget : List (Nat × List (Nat × Instr × Nat)) := [(1000000, [(0, .aload_n 0, 0), (1, .getfield 51, 0), (4, .invokevirtual 132, 0), (7, .return_, 0)])]
theorem ik_X11_forget : (i_X11_forget).all (fun q => q.2.all (pm_ckI cX11_forget)) = true := by decide +kernel
def i_X11_ahead : List (Nat × List (Nat × Instr × Nat)) := [(22, [(0, .iload_n 1, 0), (1, .iconst 2, 0), (2, .invokestatic 259, 0), (5, .iload_n 1, 0), (6, .iconst 2, 0), (7, .if_icmp .ne 46, 53), (10, .aload_n 0, 0), (11, .getfield 68, 0), (14, .aload_n 0, 0), (15, .getfield 44, 0), (18, .invokevirtual 293, 0), (21, .aload_n 0, 0)]), (48, [(22, .getfield 88, 0), (25, .aload_n 0, 0), (26, .getfield 34, 0), (29, .aload_n 0, 0), (30, .getfield 68, 0), (33, .aload_n 0, 0), (34, .getfield 51, 0), (37, .aload_n 0, 0), (38, .getfield 64, 0), (41, .invokevirtual 321, 0), (44, .ifCond .eq 7, 51), (47, .iconst 1, 0)]), (70, [(48, .goto 4, 52), (51, .iconst 0, 0), (52, .ireturn, 0), (53, .aload_n 0, 0), (54, .getfield 88, 0), (57, .aload_n 0, 0), (58, .getfield 34, 0), (61, .aload_n 0, 0), (62, .getfield 44, 0), (65, .aload_n 0, 0), (66, .getfield 51, 0), (69, .aload_n 0, 0)]), (1000000, [(70, .getfield 64, 0), (73, .invokevirtual 325, 0), (76, .iload_n 1, 0), (77, .ifCond .ne 13, 90), (80, .aload_n 0, 0), (81, .getfield 88, 0), (84, .getfield 329, 0), (87, .goto 10, 97), (90, .aload_n 0, 0), (91, .getfield 88, 0), (94, .getfield 332, 0), (97, .ireturn, 0)])]
theorem ik_X11_ahead : (i_X11_ahead).all (fun q => q.2.all (pm_ckI cX11_ahead)) = true := by decide +kernel
def i_X11_look : List (Nat × List (Nat × Instr × Nat)) := [(22, [(0, .iload_n 1, 0), (1, .iconst 1, 0), (2, .invokestatic 259, 0), (5, .aload_n 0, 0), (6, .getfield 88, 0), (9, .aload_n 0, 0), (10, .getfield 34, 0), (13, .aload_n 0, 0), (14, .getfield 44, 0), (17, .aload_n 0, 0), (18, .getfield 51, 0), (21, .aload_n 0, 0)]), (44, [(22, .getfield 64, 0), (25, .invokevirtual 325, 0), (28, .iconst 0, 0), (29, .istore_n 2, 0), (30, .iconst (-1), 0), (31, .istore_n 3, 0), (32, .iconst 0, 0), (33, .istore 4, 0), (35, .iload 4, 0), (37, .aload_n 0, 0), (38, .getfield 34, 0), (41, .getfield 139, 0)]), (70, [(44, .if_icmp .ge 36, 80), (47, .aload_n 0, 0), (48, .getfield 88, 0), (51, .getfield 335, 0), (54, .iload 4, 0), (56, .laload, 0), (57, .invokestatic 169, 0), (60, .istore 5, 0), (62, .iload 5, 0), (64, .iload_n 2, 0), (65, .if_icmp .le 9, 74), (68, .iload 5, 0)]), (1000000, [(70, .istore_n 2, 0), (71, .iload 4, 0), (73, .istore_n 3, 0), (74, .iinc 4 1, 0), (77, .goto (-42), 35), (80, .iload_n 1, 0), (81, .ifCond .ne 7, 88), (84, .iload_n 3, 0), (85, .goto 4, 89), (88, .iload_n 2, 0), (89, .ireturn, 0)])]
theorem ik_X11_look : (i_X11_look).all (fun q => q.2.all (pm_ckI cX11_look)) = true := by decide +kernel
def i_X11_clouds : List (Nat × List (Nat × Instr × Nat)) := [(19, [(0, .aload_n 0, 0), (1, .iload_n 1, 0), (2, .invokevirtual 197, 0), (5, .aload_n 0, 0), (6, .iload_n 2, 0), (7, .invokevirtual 224, 0), (10, .iload_n 3, 0), (11, .iconst 1, 0), (12, .iconst 5, 0), (13, .invokestatic 263, 0), (16, .iload 4, 0), (18, .iconst 0, 0)]), (39, [(19, .bipush 10, 0), (21, .invokestatic 263, 0), (24, .iconst 0, 0), (25, .istore 5, 0), (27, .iconst 0, 0), (28, .istore 6, 0), (30, .iload 6, 0), (32, .iconst 1, 0), (33, .iload_n 3, 0), (34, .ishl, 0), (35, .if_icmp .ge 112, 147), (38, .iconst 1, 0)]), (63, [(39, .istore 7, 0), (41, .aload_n 0, 0), (42, .getfield 68, 0), (45, .aload_n 0, 0), (46, .getfield 44, 0), (49, .invokevirtual 293, 0), (52, .iconst 0, 0), (53, .istore 8, 0), (55, .iload 8, 0), (57, .iload_n 3, 0), (58, .if_icmp .ge 63, 121), (61, .iload 6, 0)]), (85, [(63, .iload 8, 0), (65, .ishr, 0), (66, .iconst 1, 0), (67, .iand, 0), (68, .ifCond .eq 7, 75), (71, .iconst 1, 0), (72, .goto 4, 76), (75, .iconst 0, 0), (76, .istore 9, 0), (78, .iload 7, 0), (80, .iload 9, 0), (82, .ifCond .eq 8, 90)]), (107, [(85, .iload 4, 0), (87, .goto 8, 95), (90, .bipush 10, 0), (92, .iload 4, 0), (94, .isub, 0), (95, .imul, 0), (96, .istore 7, 0), (98, .aload_n 0, 0), (99, .getfield 64, 0), (102, .aload_n 0, 0), (103, .getfield 34, 0), (106, .aload_n 0, 0)]), (134, [(107, .getfield 68, 0), (110, .iload 9, 0), (112, .invokevirtual 339, 0), (115, .iinc 8 1, 0), (118, .goto (-63), 55), (121, .aload_n 0, 0), (122, .getfield 68, 0), (125, .getfield 200, 0), (128, .iload_n 1, 0), (129, .iaload, 0), (130, .iload_n 2, 0), (131, .if_icmp .ne 10, 141)]), (1000000, [(134, .iload 5, 0), (136, .iload 7, 0), (138, .iadd, 0), (139, .istore 5, 0), (141, .iinc 6 1, 0), (144, .goto (-114), 30), (147, .iload 5, 0), (149, .ireturn, 0)])]
theorem ik_X11_clouds : (i_X11_clouds).all (fun q => q.2.all (pm_ckI cX11_clouds)) = true := by decide +kernel
def i_X11_game : List (Nat × List (Nat × Instr × Nat)) := [(20, [(0, .aload_n 0, 0), (1, .iload_n 1, 0), (2, .invokevirtual 197, 0), (5, .aload_n 0, 0), (6, .iload_n 2, 0), (7, .invokevirtual 197, 0), (10, .iload_n 3, 0), (11, .iconst 1, 0), (12, .invokestatic 259, 0), (15, .iload_n 1, 0), (16, .iload_n 2, 0), (17, .if_icmp .ne 14, 31)]), (42, [(20, .new 115, 0), (23, .dup, 0), (24, .ldc_w 343, 0), (27, .invokespecial 119, 0), (30, .athrow, 0), (31, .iconst 0, 0), (32, .istore 4, 0), (34, .iload 4, 0), (36, .iconst 4, 0), (37, .if_icmp .ge 17, 54), (40, .aload_n 0, 0), (41, .iload_n 1, 0)]), (65, [(42, .iload_n 2, 0), (43, .iload 4, 0), (45, .invokevirtual 345, 0), (48, .iinc 4 1, 0), (51, .goto (-17), 34), (54, .iconst 0, 0), (55, .istore 4, 0), (57, .iconst (-1), 0), (58, .istore 5, 0), (60, .iconst 3, 0), (61, .istore 6, 0), (63, .iload 6, 0)]), (89, [(65, .ifCond .lt 35, 100), (68, .aload_n 0, 0), (69, .iload 6, 0), (71, .invokevirtual 348, 0), (74, .ifCond .eq 20, 94), (77, .iinc 4 1, 0), (80, .bipush 10, 0), (82, .iload 6, 0), (84, .iconst 1, 0), (85, .ishr, 0), (86, .imul, 0), (87, .iload 6, 0)]), (1000000, [(89, .iconst 1, 0), (90, .iand, 0), (91, .iadd, 0), (92, .istore 5, 0), (94, .iinc 6 (-1), 0), (97, .goto (-34), 63), (100, .iload_n 3, 0), (101, .ifCond .ne 8, 109), (104, .iload 4, 0), (106, .goto 5, 111), (109, .iload 5, 0), (111, .ireturn, 0)])]
theorem ik_X11_game : (i_X11_game).all (fun q => q.2.all (pm_ckI cX11_game)) = true := by decide +kernel
def i_X11_years : List (Nat × List (Nat × Instr × Nat)) := [(19, [(0, .iload_n 3, 0), (1, .iconst 2, 0), (2, .invokestatic 259, 0), (5, .iload_n 2, 0), (6, .iconst 0, 0), (7, .bipush 100, 0), (9, .invokestatic 263, 0), (12, .aload_n 0, 0), (13, .iload_n 1, 0), (14, .putfield 351, 0), (17, .aload_n 0, 0), (18, .iconst 0, 0)]), (42, [(19, .invokevirtual 267, 0), (22, .iconst 0, 0), (23, .istore 4, 0), (25, .iconst 0, 0), (26, .istore 5, 0), (28, .iload 5, 0), (30, .iload_n 2, 0), (31, .if_icmp .ge 40, 71), (34, .aload_n 0, 0), (35, .invokevirtual 354, 0), (38, .aload_n 0, 0), (39, .invokevirtual 270, 0)]), (72, [(42, .aload_n 0, 0), (43, .getfield 68, 0), (46, .invokevirtual 357, 0), (49, .invokestatic 169, 0), (52, .aload_n 0, 0), (53, .getfield 34, 0), (56, .getfield 139, 0), (59, .if_icmp .ge 6, 65), (62, .iinc 4 1, 0), (65, .iinc 5 1, 0), (68, .goto (-40), 28), (71, .iload_n 3, 0)]), (97, [(72, .ifCond .ne 6, 78), (75, .iload 4, 0), (77, .ireturn, 0), (78, .iload_n 3, 0), (79, .iconst 1, 0), (80, .if_icmp .ne 13, 93), (83, .aload_n 0, 0), (84, .getfield 68, 0), (87, .invokevirtual 179, 0), (90, .goto 13, 103), (93, .aload_n 0, 0), (94, .getfield 68, 0)]), (1000000, [(97, .invokevirtual 357, 0), (100, .invokestatic 169, 0), (103, .ireturn, 0)])]
theorem ik_X11_years : (i_X11_years).all (fun q => q.2.all (pm_ckI cX11_years)) = true := by decide +kernel
def i_X11_later : List (Nat × List (Nat × Instr × Nat)) := [(21, [(0, .iload_n 2, 0), (1, .iconst 3, 0), (2, .invokestatic 259, 0), (5, .iload_n 1, 0), (6, .iload_n 2, 0), (7, .ifCond .ne 7, 14), (10, .iconst 1, 0), (11, .goto 4, 15), (14, .iconst 0, 0), (15, .bipush 100, 0), (17, .invokestatic 263, 0), (20, .iload_n 2, 0)]), (41, [(21, .ifCond .ne 9, 30), (24, .aload_n 0, 0), (25, .iload_n 1, 0), (26, .invokevirtual 360, 0), (29, .ireturn, 0), (30, .iload_n 2, 0), (31, .iconst 1, 0), (32, .if_icmp .ne 9, 41), (35, .aload_n 0, 0), (36, .iload_n 1, 0), (37, .invokevirtual 363, 0), (40, .ireturn, 0)]), (1000000, [(41, .iload_n 2, 0), (42, .iconst 2, 0), (43, .if_icmp .ne 11, 54), (46, .aload_n 0, 0), (47, .iload_n 1, 0), (48, .invokevirtual 366, 0), (51, .goto 8, 59), (54, .aload_n 0, 0), (55, .iload_n 1, 0), (56, .invokevirtual 369, 0), (59, .ireturn, 0)])]
theorem ik_X11_later : (i_X11_later).all (fun q => q.2.all (pm_ckI cX11_later)) = true := by decide +kernel
def i_X11_together : List (Nat × List (Nat × Instr × Nat)) := [(19, [(0, .aload_n 0, 0), (1, .iload_n 1, 0), (2, .invokevirtual 197, 0), (5, .aload_n 0, 0), (6, .iload_n 2, 0), (7, .invokevirtual 197, 0), (10, .iload_n 3, 0), (11, .iconst 1, 0), (12, .bipush 100, 0), (14, .invokestatic 263, 0), (17, .aload_n 0, 0), (18, .iconst 0, 0)]), (42, [(19, .invokevirtual 267, 0), (22, .iconst 0, 0), (23, .istore 4, 0), (25, .iconst 0, 0), (26, .istore 5, 0), (28, .iload 5, 0), (30, .iload_n 3, 0), (31, .if_icmp .ge 37, 68), (34, .aload_n 0, 0), (35, .invokevirtual 270, 0), (38, .aload_n 0, 0), (39, .getfield 68, 0)]), (68, [(42, .getfield 200, 0), (45, .iload_n 1, 0), (46, .iaload, 0), (47, .aload_n 0, 0), (48, .getfield 68, 0), (51, .getfield 200, 0), (54, .iload_n 2, 0), (55, .iaload, 0), (56, .if_icmp .ne 6, 62), (59, .iinc 4 1, 0), (62, .iinc 5 1, 0), (65, .goto (-37), 28)]), (1000000, [(68, .iload 4, 0), (70, .ireturn, 0)])]
theorem ik_X11_together : (i_X11_together).all (fun q => q.2.all (pm_ckI cX11_together)) = true := by decide +kernel
def i_X11_quiet : List (Nat × List (Nat × Instr × Nat)) := [(19, [(0, .aload_n 0, 0), (1, .iload_n 1, 0), (2, .invokevirtual 224, 0), (5, .iload_n 2, 0), (6, .iconst 1, 0), (7, .bipush 100, 0), (9, .invokestatic 263, 0), (12, .aload_n 0, 0), (13, .iconst 0, 0), (14, .invokevirtual 267, 0), (17, .iconst 0, 0), (18, .istore_n 3, 0)]), (43, [(19, .iconst 0, 0), (20, .istore 4, 0), (22, .iload 4, 0), (24, .iload_n 2, 0), (25, .if_icmp .ge 27, 52), (28, .aload_n 0, 0), (29, .invokevirtual 270, 0), (32, .aload_n 0, 0), (33, .getfield 68, 0), (36, .iload_n 1, 0), (37, .invokevirtual 230, 0), (40, .ifCond .ne 6, 46)]), (1000000, [(43, .iinc 3 1, 0), (46, .iinc 4 1, 0), (49, .goto (-27), 22), (52, .iload_n 3, 0), (53, .ireturn, 0)])]
theorem ik_X11_quiet : (i_X11_quiet).all (fun q => q.2.all (pm_ckI cX11_quiet)) = true := by decide +kernel
def i_X11_gone : List (Nat × List (Nat × Instr × Nat)) := [(19, [(0, .aload_n 0, 0), (1, .iload_n 1, 0), (2, .invokevirtual 197, 0), (5, .iload_n 2, 0), (6, .iconst 0, 0), (7, .bipush 100, 0), (9, .invokestatic 263, 0), (12, .aload_n 0, 0), (13, .iconst 0, 0), (14, .invokevirtual 267, 0), (17, .iconst 0, 0), (18, .istore_n 3, 0)]), (40, [(19, .iconst 0, 0), (20, .istore 4, 0), (22, .iload 4, 0), (24, .iload_n 2, 0), (25, .if_icmp .ge 41, 66), (28, .aload_n 0, 0), (29, .getfield 68, 0), (32, .getfield 200, 0), (35, .iload_n 1, 0), (36, .iaload, 0), (37, .istore 5, 0), (39, .aload_n 0, 0)]), (67, [(40, .invokevirtual 270, 0), (43, .aload_n 0, 0), (44, .getfield 68, 0), (47, .getfield 200, 0), (50, .iload_n 1, 0), (51, .iaload, 0), (52, .iload 5, 0), (54, .if_icmp .eq 6, 60), (57, .iinc 3 1, 0), (60, .iinc 4 1, 0), (63, .goto (-41), 22), (66, .iload_n 3, 0)]), (1000000, [(67, .ireturn, 0)])]
theorem ik_X11_gone : (i_X11_gone).all (fun q => q.2.all (pm_ckI cX11_gone)) = true := by decide +kernel
def i_X11_image : List (Nat × List (Nat × Instr × Nat)) := [(24, [(0, .aload_n 0, 0), (1, .iconst 1, 0), (2, .putfield 135, 0), (5, .aload_n 0, 0), (6, .getfield 55, 0), (9, .aload_n 0, 0), (10, .getfield 44, 0), (13, .invokevirtual 293, 0), (16, .aload_n 0, 0), (17, .getfield 58, 0), (20, .aload_n 0, 0), (21, .getfield 51, 0)]), (1000000, [(24, .invokevirtual 372, 0), (27, .return_, 0)])]
theorem ik_X11_image : (i_X11_image).all (fun q => q.2.all (pm_ckI cX11_image)) = true := by decide +kernel
def i_X11_restore : List (Nat × List (Nat × Instr × Nat)) := [(24, [(0, .aload_n 0, 0), (1, .getfield 135, 0), (4, .ifCond .ne 5, 9), (7, .iconst 0, 0), (8, .ireturn, 0), (9, .aload_n 0, 0), (10, .getfield 44, 0), (13, .aload_n 0, 0), (14, .getfield 55, 0), (17, .invokevirtual 293, 0), (20, .aload_n 0, 0), (21, .getfield 51, 0)]), (1000000, [(24, .aload_n 0, 0), (25, .getfield 58, 0), (28, .invokevirtual 372, 0), (31, .iconst 1, 0), (32, .ireturn, 0)])]
theorem ik_X11_restore : (i_X11_restore).all (fun q => q.2.all (pm_ckI cX11_restore)) = true := by decide +kernel
def i_X11_checkFigure : List (Nat × List (Nat × Instr × Nat)) := [(26, [(0, .iload_n 1, 0), (1, .ifCond .lt 14, 15), (4, .iload_n 1, 0), (5, .aload_n 0, 0), (6, .getfield 34, 0), (9, .getfield 139, 0), (12, .if_icmp .lt 14, 26), (15, .new 192, 0), (18, .dup, 0), (19, .ldc_w 375, 0), (22, .invokespecial 196, 0), (25, .athrow, 0)]), (1000000, [(26, .return_, 0)])]
theorem ik_X11_checkFigure : (i_X11_checkFigure).all (fun q => q.2.all (pm_ckI cX11_checkFigure)) = true := by decide +kernel
def i_X11_checkCell : List (Nat × List (Nat × Instr × Nat)) := [(26, [(0, .iload_n 1, 0), (1, .ifCond .lt 14, 15), (4, .iload_n 1, 0), (5, .aload_n 0, 0), (6, .getfield 34, 0), (9, .invokevirtual 273, 0), (12, .if_icmp .lt 14, 26), (15, .new 192, 0), (18, .dup, 0), (19, .ldc_w 377, 0), (22, .invokespecial 196, 0), (25, .athrow, 0)]), (1000000, [(26, .return_, 0)])]
theorem ik_X11_checkCell : (i_X11_checkCell).all (fun q => q.2.all (pm_ckI cX11_checkCell)) = true := by decide +kernel
def i_X11_checkWhat : List (Nat × List (Nat × Instr × Nat)) := [(1000000, [(0, .iload_n 0, 0), (1, .ifCond .lt 8, 9), (4, .iload_n 0, 0), (5, .iload_n 1, 0), (6, .if_icmp .le 14, 20), (9, .new 192, 0), (12, .dup, 0), (13, .ldc_w 379, 0), (16, .invokespecial 196, 0), (19, .athrow, 0), (20, .return_, 0)])]
theorem ik_X11_checkWhat : (i_X11_checkWhat).all (fun q => q.2.all (pm_ckI cX11_checkWhat)) = true := by decide +kernel
def i_X11_checkHours : List (Nat × List (Nat × Instr × Nat)) := [(1000000, [(0, .iload_n 0, 0), (1, .iload_n 1, 0), (2, .if_icmp .lt 8, 10), (5, .iload_n 0, 0), (6, .iload_n 2, 0), (7, .if_icmp .le 14, 21), (10, .new 115, 0), (13, .dup, 0), (14, .ldc_w 381, 0), (17, .invokespecial 119, 0), (20, .athrow, 0), (21, .return_, 0)])]
theorem ik_X11_checkHours : (i_X11_checkHours).all (fun q => q.2.all (pm_ckI cX11_checkHours)) = true := by decide +kernel
def i_X11_refuseAct : List (Nat × List (Nat × Instr × Nat)) := [(1000000, [(0, .aload_n 0, 0), (1, .getfield 27, 0), (4, .iconst 1, 0), (5, .dup2, 0), (6, .iaload, 0), (7, .iconst 1, 0), (8, .iadd, 0), (9, .iastore, 0), (10, .iconst (-1), 0), (11, .ireturn, 0)])]
theorem ik_X11_refuseAct : (i_X11_refuseAct).all (fun q => q.2.all (pm_ckI cX11_refuseAct)) = true := by decide +kernel
def i_X11_pay : List (Nat × List (Nat × Instr × Nat)) := [(1000000, [(0, .aload_n 0, 0), (1, .getfield 44, 0), (4, .sipush 9999, 0), (7, .aload_n 0, 0), (8, .getfield 44, 0), (11, .getfield 162, 0), (14, .iload_n 1, 0), (15, .iadd, 0), (16, .invokestatic 383, 0), (19, .putfield 162, 0), (22, .return_, 0)])]
theorem ik_X11_pay : (i_X11_pay).all (fun q => q.2.all (pm_ckI cX11_pay)) = true := by decide +kernel
def i_X11_foresee : List (Nat × List (Nat × Instr × Nat)) := [(24, [(0, .aload_n 0, 0), (1, .getfield 68, 0), (4, .aload_n 0, 0), (5, .getfield 44, 0), (8, .invokevirtual 293, 0), (11, .aload_n 0, 0), (12, .getfield 64, 0), (15, .aload_n 0, 0), (16, .getfield 34, 0), (19, .aload_n 0, 0), (20, .getfield 68, 0), (23, .iload_n 1, 0)]), (1000000, [(24, .invokevirtual 249, 0), (27, .return_, 0)])]
theorem ik_X11_foresee : (i_X11_foresee).all (fun q => q.2.all (pm_ckI cX11_foresee)) = true := by decide +kernel
def i_X11_passFuture : List (Nat × List (Nat × Instr × Nat)) := [(26, [(0, .aload_n 0, 0), (1, .getfield 64, 0), (4, .aload_n 0, 0), (5, .getfield 34, 0), (8, .aload_n 0, 0), (9, .getfield 68, 0), (12, .aload_n 0, 0), (13, .getfield 34, 0), (16, .aload_n 0, 0), (17, .getfield 68, 0), (20, .getfield 151, 0), (23, .invokevirtual 158, 0)]), (1000000, [(26, .invokevirtual 339, 0), (29, .return_, 0)])]
theorem ik_X11_passFuture : (i_X11_passFuture).all (fun q => q.2.all (pm_ckI cX11_passFuture)) = true := by decide +kernel
def i_X11_addMeetings : List (Nat × List (Nat × Instr × Nat)) := [(22, [(0, .iconst 0, 0), (1, .istore_n 1, 0), (2, .iload_n 1, 0), (3, .aload_n 0, 0), (4, .getfield 34, 0), (7, .getfield 139, 0), (10, .if_icmp .ge 44, 54), (13, .aload_n 0, 0), (14, .getfield 95, 0), (17, .iload_n 1, 0), (18, .aload_n 0, 0), (19, .getfield 95, 0)]), (42, [(22, .iload_n 1, 0), (23, .iaload, 0), (24, .aload_n 0, 0), (25, .getfield 68, 0), (28, .aload_n 0, 0), (29, .getfield 68, 0), (32, .getfield 200, 0), (35, .iload_n 1, 0), (36, .iaload, 0), (37, .invokevirtual 230, 0), (40, .iconst 1, 0), (41, .iload_n 1, 0)]), (1000000, [(42, .ishl, 0), (43, .iconst (-1), 0), (44, .ixor, 0), (45, .iand, 0), (46, .ior, 0), (47, .iastore, 0), (48, .iinc 1 1, 0), (51, .goto (-49), 2), (54, .return_, 0)])]
theorem ik_X11_addMeetings : (i_X11_addMeetings).all (fun q => q.2.all (pm_ckI cX11_addMeetings)) = true := by decide +kernel
def i_X11_noneMeets : List (Nat × List (Nat × Instr × Nat)) := [(18, [(0, .iconst 0, 0), (1, .istore_n 2, 0), (2, .iload_n 2, 0), (3, .aload_n 0, 0), (4, .getfield 34, 0), (7, .getfield 139, 0), (10, .if_icmp .ge 32, 42), (13, .iload_n 1, 0), (14, .iload_n 2, 0), (15, .ishr, 0), (16, .iconst 1, 0), (17, .iand, 0)]), (36, [(18, .ifCond .ne 18, 36), (21, .aload_n 0, 0), (22, .getfield 95, 0), (25, .iload_n 2, 0), (26, .iaload, 0), (27, .iload_n 1, 0), (28, .iconst (-1), 0), (29, .ixor, 0), (30, .iand, 0), (31, .ifCond .eq 5, 36), (34, .iconst 0, 0), (35, .ireturn, 0)]), (1000000, [(36, .iinc 2 1, 0), (39, .goto (-37), 2), (42, .iconst 1, 0), (43, .ireturn, 0)])]
theorem ik_X11_noneMeets : (i_X11_noneMeets).all (fun q => q.2.all (pm_ckI cX11_noneMeets)) = true := by decide +kernel
def i_X11_play : List (Nat × List (Nat × Instr × Nat)) := [(24, [(0, .aload_n 0, 0), (1, .getfield 68, 0), (4, .aload_n 0, 0), (5, .getfield 44, 0), (8, .invokevirtual 293, 0), (11, .iload_n 3, 0), (12, .iconst 2, 0), (13, .iand, 0), (14, .ifCond .eq 13, 27), (17, .aload_n 0, 0), (18, .getfield 68, 0), (21, .getfield 209, 0)]), (42, [(24, .iload_n 1, 0), (25, .iconst 3, 0), (26, .iastore, 0), (27, .iload_n 3, 0), (28, .iconst 1, 0), (29, .iand, 0), (30, .ifCond .eq 13, 43), (33, .aload_n 0, 0), (34, .getfield 68, 0), (37, .getfield 209, 0), (40, .iload_n 2, 0), (41, .iconst 3, 0)]), (63, [(42, .iastore, 0), (43, .iconst 0, 0), (44, .istore 4, 0), (46, .iconst 0, 0), (47, .istore 5, 0), (49, .iconst 0, 0), (50, .istore 6, 0), (52, .iload 6, 0), (54, .bipush 8, 0), (56, .if_icmp .ge 55, 111), (59, .aload_n 0, 0), (60, .invokevirtual 270, 0)]), (86, [(63, .iload 4, 0), (65, .aload_n 0, 0), (66, .getfield 68, 0), (69, .iload_n 1, 0), (70, .invokevirtual 219, 0), (73, .ifCond .le 7, 80), (76, .iconst 2, 0), (77, .goto 4, 81), (80, .iconst 0, 0), (81, .iadd, 0), (82, .istore 4, 0), (84, .iload 5, 0)]), (111, [(86, .aload_n 0, 0), (87, .getfield 68, 0), (90, .iload_n 2, 0), (91, .invokevirtual 219, 0), (94, .ifCond .le 7, 101), (97, .iconst 2, 0), (98, .goto 4, 102), (101, .iconst 0, 0), (102, .iadd, 0), (103, .istore 5, 0), (105, .iinc 6 1, 0), (108, .goto (-56), 52)]), (130, [(111, .aload_n 0, 0), (112, .getfield 98, 0), (115, .iconst 2, 0), (116, .iload_n 3, 0), (117, .imul, 0), (118, .iload 4, 0), (120, .aload_n 0, 0), (121, .getfield 68, 0), (124, .getfield 206, 0), (127, .iload_n 1, 0), (128, .iaload, 0), (129, .iconst 2, 0)]), (145, [(130, .idiv, 0), (131, .isub, 0), (132, .iastore, 0), (133, .aload_n 0, 0), (134, .getfield 98, 0), (137, .iconst 2, 0), (138, .iload_n 3, 0), (139, .imul, 0), (140, .iconst 1, 0), (141, .iadd, 0), (142, .iload 5, 0), (144, .aload_n 0, 0)]), (1000000, [(145, .getfield 68, 0), (148, .getfield 206, 0), (151, .iload_n 2, 0), (152, .iaload, 0), (153, .iconst 2, 0), (154, .idiv, 0), (155, .isub, 0), (156, .iastore, 0), (157, .return_, 0)])]
theorem ik_X11_play : (i_X11_play).all (fun q => q.2.all (pm_ckI cX11_play)) = true := by decide +kernel
def i_X11_rests : List (Nat × List (Nat × Instr × Nat)) := [(16, [(0, .aload_n 0, 0), (1, .getfield 98, 0), (4, .iconst 2, 0), (5, .iload_n 1, 0), (6, .imul, 0), (7, .iaload, 0), (8, .aload_n 0, 0), (9, .getfield 98, 0), (12, .iconst 2, 0), (13, .iload_n 1, 0), (14, .iconst 2, 0), (15, .ixor, 0)]), (36, [(16, .imul, 0), (17, .iaload, 0), (18, .if_icmp .lt 7, 25), (21, .iconst 1, 0), (22, .goto 4, 26), (25, .iconst 0, 0), (26, .istore_n 2, 0), (27, .iload_n 2, 0), (28, .ifCond .eq 32, 60), (31, .aload_n 0, 0), (32, .getfield 98, 0), (35, .iconst 2, 0)]), (50, [(36, .iload_n 1, 0), (37, .imul, 0), (38, .iconst 1, 0), (39, .iadd, 0), (40, .iaload, 0), (41, .aload_n 0, 0), (42, .getfield 98, 0), (45, .iconst 2, 0), (46, .iload_n 1, 0), (47, .iconst 1, 0), (48, .ixor, 0), (49, .imul, 0)]), (1000000, [(50, .iconst 1, 0), (51, .iadd, 0), (52, .iaload, 0), (53, .if_icmp .lt 7, 60), (56, .iconst 1, 0), (57, .goto 4, 61), (60, .iconst 0, 0), (61, .ireturn, 0)])]
theorem ik_X11_rests : (i_X11_rests).all (fun q => q.2.all (pm_ckI cX11_rests)) = true := by decide +kernel
end
section
def i_X11_draw : List (Nat × List (Nat × Instr × Nat)) := [(24, [(0, .aload_n 0, 0), (1, .aload_n 0, 0), (2, .getfield 351, 0), (5, .ldc_w 388, 0), (8, .imul, 0), (9, .sipush 12345, 0), (12, .iadd, 0), (13, .putfield 351, 0), (16, .iload_n 1, 0), (17, .ifCond .le 19, 36), (20, .aload_n 0, 0), (21, .getfield 351, 0)]), (1000000, [(24, .bipush 16, 0), (26, .iushr, 0), (27, .sipush 32767, 0), (30, .iand, 0), (31, .iload_n 1, 0), (32, .irem, 0), (33, .goto 4, 37), (36, .iconst 0, 0), (37, .ireturn, 0)])]
theorem ik_X11_draw : (i_X11_draw).all (fun q => q.2.all (pm_ckI cX11_draw)) = true := by decide +kernel
def i_X11_drawFate : List (Nat × List (Nat × Instr × Nat)) := [(23, [(0, .aload_n 0, 0), (1, .bipush 6, 0), (3, .invokevirtual 389, 0), (6, .istore_n 1, 0), (7, .iload_n 1, 0), (8, .iconst 2, 0), (9, .if_icmp .gt 13, 22), (12, .aload_n 0, 0), (13, .getfield 34, 0), (16, .getfield 139, 0), (19, .ifCond .ne 4, 23), (22, .return_, 0)]), (47, [(23, .aload_n 0, 0), (24, .aload_n 0, 0), (25, .getfield 34, 0), (28, .getfield 139, 0), (31, .invokevirtual 389, 0), (34, .istore_n 2, 0), (35, .iload_n 1, 0), (36, .ifCond .ne 20, 56), (39, .aload_n 0, 0), (40, .getfield 68, 0), (43, .getfield 209, 0), (46, .iload_n 2, 0)]), (69, [(47, .aload_n 0, 0), (48, .iconst 4, 0), (49, .invokevirtual 389, 0), (52, .iastore, 0), (53, .goto 64, 117), (56, .iload_n 1, 0), (57, .iconst 1, 0), (58, .if_icmp .ne 49, 107), (61, .aload_n 0, 0), (62, .aload_n 0, 0), (63, .getfield 34, 0), (66, .invokevirtual 273, 0)]), (93, [(69, .invokevirtual 389, 0), (72, .istore_n 3, 0), (73, .aload_n 0, 0), (74, .getfield 68, 0), (77, .iload_n 3, 0), (78, .invokevirtual 227, 0), (81, .ifCond .ne 23, 104), (84, .aload_n 0, 0), (85, .getfield 68, 0), (88, .getfield 200, 0), (91, .iload_n 2, 0), (92, .iload_n 3, 0)]), (115, [(93, .iastore, 0), (94, .aload_n 0, 0), (95, .getfield 68, 0), (98, .getfield 209, 0), (101, .iload_n 2, 0), (102, .iconst 0, 0), (103, .iastore, 0), (104, .goto 13, 117), (107, .aload_n 0, 0), (108, .getfield 68, 0), (111, .getfield 206, 0), (114, .iload_n 2, 0)]), (1000000, [(115, .iconst 0, 0), (116, .iastore, 0), (117, .return_, 0)])]
theorem ik_X11_drawFate : (i_X11_drawFate).all (fun q => q.2.all (pm_ckI cX11_drawFate)) = true := by decide +kernel
def i_X11_busiest : List (Nat × List (Nat × Instr × Nat)) := [(20, [(0, .aload_n 0, 0), (1, .getfield 92, 0), (4, .iconst 0, 0), (5, .invokestatic 296, 0), (8, .aload_n 0, 0), (9, .iconst 0, 0), (10, .invokevirtual 267, 0), (13, .iconst 0, 0), (14, .istore_n 2, 0), (15, .iload_n 2, 0), (16, .iload_n 1, 0), (17, .if_icmp .ge 50, 67)]), (42, [(20, .aload_n 0, 0), (21, .invokevirtual 270, 0), (24, .iconst 0, 0), (25, .istore_n 3, 0), (26, .iload_n 3, 0), (27, .aload_n 0, 0), (28, .getfield 34, 0), (31, .getfield 139, 0), (34, .if_icmp .ge 27, 61), (37, .aload_n 0, 0), (38, .getfield 92, 0), (41, .aload_n 0, 0)]), (64, [(42, .getfield 68, 0), (45, .getfield 200, 0), (48, .iload_n 3, 0), (49, .iaload, 0), (50, .dup2, 0), (51, .iaload, 0), (52, .iconst 1, 0), (53, .iadd, 0), (54, .iastore, 0), (55, .iinc 3 1, 0), (58, .goto (-32), 26), (61, .iinc 2 1, 0)]), (85, [(64, .goto (-49), 15), (67, .iconst 0, 0), (68, .istore_n 2, 0), (69, .iconst (-1), 0), (70, .istore_n 3, 0), (71, .iconst 0, 0), (72, .istore 4, 0), (74, .iload 4, 0), (76, .bipush 36, 0), (78, .if_icmp .ge 31, 109), (81, .aload_n 0, 0), (82, .getfield 92, 0)]), (106, [(85, .iload 4, 0), (87, .iaload, 0), (88, .iload_n 2, 0), (89, .if_icmp .le 14, 103), (92, .aload_n 0, 0), (93, .getfield 92, 0), (96, .iload 4, 0), (98, .iaload, 0), (99, .istore_n 2, 0), (100, .iload 4, 0), (102, .istore_n 3, 0), (103, .iinc 4 1, 0)]), (1000000, [(106, .goto (-32), 74), (109, .iload_n 3, 0), (110, .ireturn, 0)])]
theorem ik_X11_busiest : (i_X11_busiest).all (fun q => q.2.all (pm_ckI cX11_busiest)) = true := by decide +kernel
def i_X11_sorest : List (Nat × List (Nat × Instr × Nat)) := [(18, [(0, .aload_n 0, 0), (1, .iload_n 1, 0), (2, .invokevirtual 267, 0), (5, .iconst 0, 0), (6, .istore_n 2, 0), (7, .iconst (-1), 0), (8, .istore_n 3, 0), (9, .iconst 0, 0), (10, .istore 4, 0), (12, .iload 4, 0), (14, .aload_n 0, 0), (15, .getfield 34, 0)]), (45, [(18, .getfield 139, 0), (21, .if_icmp .ge 37, 58), (24, .aload_n 0, 0), (25, .getfield 68, 0), (28, .getfield 206, 0), (31, .iload 4, 0), (33, .iaload, 0), (34, .iload_n 2, 0), (35, .if_icmp .le 17, 52), (38, .aload_n 0, 0), (39, .getfield 68, 0), (42, .getfield 206, 0)]), (1000000, [(45, .iload 4, 0), (47, .iaload, 0), (48, .istore_n 2, 0), (49, .iload 4, 0), (51, .istore_n 3, 0), (52, .iinc 4 1, 0), (55, .goto (-43), 12), (58, .iload_n 3, 0), (59, .ireturn, 0)])]
theorem ik_X11_sorest : (i_X11_sorest).all (fun q => q.2.all (pm_ckI cX11_sorest)) = true := by decide +kernel
def i_X11_alone : List (Nat × List (Nat × Instr × Nat)) := [(20, [(0, .aload_n 0, 0), (1, .iconst 0, 0), (2, .invokevirtual 267, 0), (5, .aload_n 0, 0), (6, .getfield 68, 0), (9, .invokevirtual 392, 0), (12, .istore_n 2, 0), (13, .iconst 0, 0), (14, .istore_n 3, 0), (15, .iload_n 3, 0), (16, .iload_n 1, 0), (17, .if_icmp .ge 23, 40)]), (1000000, [(20, .aload_n 0, 0), (21, .invokevirtual 270, 0), (24, .iload_n 2, 0), (25, .aload_n 0, 0), (26, .getfield 68, 0), (29, .invokevirtual 392, 0), (32, .iand, 0), (33, .istore_n 2, 0), (34, .iinc 3 1, 0), (37, .goto (-22), 15), (40, .iload_n 2, 0), (41, .ireturn, 0)])]
theorem ik_X11_alone : (i_X11_alone).all (fun q => q.2.all (pm_ckI cX11_alone)) = true := by decide +kernel
def i_X11_stuck : List (Nat × List (Nat × Instr × Nat)) := [(18, [(0, .aload_n 0, 0), (1, .iconst 0, 0), (2, .invokevirtual 267, 0), (5, .iconst 1, 0), (6, .aload_n 0, 0), (7, .getfield 34, 0), (10, .getfield 139, 0), (13, .ishl, 0), (14, .iconst 1, 0), (15, .isub, 0), (16, .istore_n 2, 0), (17, .iconst 0, 0)]), (40, [(18, .istore_n 3, 0), (19, .iload_n 3, 0), (20, .iload_n 1, 0), (21, .if_icmp .ge 27, 48), (24, .aload_n 0, 0), (25, .invokevirtual 270, 0), (28, .iload_n 2, 0), (29, .aload_n 0, 0), (30, .getfield 68, 0), (33, .aload_n 0, 0), (34, .getfield 44, 0), (37, .invokevirtual 395, 0)]), (1000000, [(40, .iand, 0), (41, .istore_n 2, 0), (42, .iinc 3 1, 0), (45, .goto (-26), 19), (48, .iload_n 2, 0), (49, .ireturn, 0)])]
theorem ik_X11_stuck : (i_X11_stuck).all (fun q => q.2.all (pm_ckI cX11_stuck)) = true := by decide +kernel
def i_X12_init : List (Nat × List (Nat × Instr × Nat)) := [(20, [(0, .aload_n 0, 0), (1, .invokespecial 1, 0), (4, .aload_n 0, 0), (5, .iconst 5, 0), (6, .putfield 7, 0), (9, .aload_n 0, 0), (10, .iconst 4, 0), (11, .putfield 13, 0), (14, .aload_n 0, 0), (15, .iconst 3, 0), (16, .putfield 16, 0), (19, .aload_n 0, 0)]), (42, [(20, .iconst (-1), 0), (21, .putfield 19, 0), (24, .aload_n 0, 0), (25, .iconst (-1), 0), (26, .putfield 22, 0), (29, .aload_n 0, 0), (30, .bipush 8, 0), (32, .newarray .int, 0), (34, .putfield 25, 0), (37, .aload_n 0, 0), (38, .bipush 64, 0), (40, .newarray .int, 0)]), (67, [(42, .putfield 29, 0), (45, .aload_n 0, 0), (46, .bipush 8, 0), (48, .newarray .int, 0), (50, .putfield 32, 0), (53, .aload_n 0, 0), (54, .bipush 8, 0), (56, .newarray .int, 0), (58, .putfield 35, 0), (61, .aload_n 0, 0), (62, .sipush 1400, 0), (65, .newarray .int, 0)]), (91, [(67, .putfield 38, 0), (70, .aload_n 0, 0), (71, .sipush 700, 0), (74, .newarray .int, 0), (76, .putfield 41, 0), (79, .aload_n 0, 0), (80, .iconst (-1), 0), (81, .putfield 44, 0), (84, .aload_n 0, 0), (85, .iconst 3, 0), (86, .newarray .int, 0), (88, .putfield 47, 0)]), (115, [(91, .aload_n 0, 0), (92, .bipush 8, 0), (94, .newarray .int, 0), (96, .putfield 50, 0), (99, .aload_n 0, 0), (100, .bipush 64, 0), (102, .newarray .int, 0), (104, .putfield 53, 0), (107, .aload_n 0, 0), (108, .bipush 8, 0), (110, .newarray .int, 0), (112, .putfield 56, 0)]), (140, [(115, .aload_n 0, 0), (116, .bipush 8, 0), (118, .newarray .int, 0), (120, .putfield 59, 0), (123, .aload_n 0, 0), (124, .bipush 70, 0), (126, .newarray .int, 0), (128, .putfield 62, 0), (131, .aload_n 0, 0), (132, .sipush 1400, 0), (135, .newarray .int, 0), (137, .putfield 65, 0)]), (166, [(140, .aload_n 0, 0), (141, .sipush 950, 0), (144, .newarray .int, 0), (146, .putfield 68, 0), (149, .aload_n 0, 0), (150, .bipush 9, 0), (152, .newarray .boolean, 0), (154, .putfield 71, 0), (157, .aload_n 0, 0), (158, .sipush 140, 0), (161, .newarray .int, 0), (163, .putfield 75, 0)]), (192, [(166, .aload_n 0, 0), (167, .sipush 2800, 0), (170, .newarray .int, 0), (172, .putfield 78, 0), (175, .aload_n 0, 0), (176, .bipush 6, 0), (178, .newarray .int, 0), (180, .putfield 81, 0), (183, .aload_n 0, 0), (184, .sipush 950, 0), (187, .newarray .int, 0), (189, .putfield 84, 0)]), (214, [(192, .aload_n 0, 0), (193, .iconst (-1), 0), (194, .putfield 87, 0), (197, .aload_n 0, 0), (198, .bipush 36, 0), (200, .newarray .int, 0), (202, .putfield 90, 0), (205, .aload_n 0, 0), (206, .bipush 36, 0), (208, .newarray .int, 0), (210, .putfield 93, 0), (213, .aload_n 0, 0)]), (238, [(214, .bipush 36, 0), (216, .newarray .int, 0), (218, .putfield 96, 0), (221, .aload_n 0, 0), (222, .bipush 8, 0), (224, .newarray .int, 0), (226, .putfield 99, 0), (229, .aload_n 0, 0), (230, .bipush 64, 0), (232, .newarray .int, 0), (234, .putfield 102, 0), (237, .aload_n 0, 0)]), (263, [(238, .sipush 2304, 0), (241, .newarray .int, 0), (243, .putfield 105, 0), (246, .aload_n 0, 0), (247, .bipush 24, 0), (249, .newarray .int, 0), (251, .putfield 108, 0), (254, .aload_n 0, 0), (255, .bipush 8, 0), (257, .newarray .int, 0), (259, .putfield 111, 0), (262, .aload_n 0, 0)]), (289, [(263, .sipush 512, 0), (266, .newarray .int, 0), (268, .putfield 114, 0), (271, .aload_n 0, 0), (272, .bipush 70, 0), (274, .newarray .int, 0), (276, .putfield 117, 0), (279, .aload_n 0, 0), (280, .sipush 2800, 0), (283, .newarray .int, 0), (285, .putfield 120, 0), (288, .aload_n 0, 0)]), (1000000, [(289, .bipush 24, 0), (291, .newarray .int, 0), (293, .putfield 123, 0), (296, .return_, 0)])]
theorem ik_X12_init : (i_X12_init).all (fun q => q.2.all (pm_ckI cX12_init)) = true := by decide +kernel
def i_X12_thrown : List (Nat × List (Nat × Instr × Nat)) := [(1000000, [(0, .aload_n 0, 0), (1, .getfield 126, 0), (4, .ireturn, 0)])]
theorem ik_X12_thrown : (i_X12_thrown).all (fun q => q.2.all (pm_ckI cX12_thrown)) = true := by decide +kernel
def i_X12_right : List (Nat × List (Nat × Instr × Nat)) := [(24, [(0, .aload_n 0, 0), (1, .getfield 126, 0), (4, .ifCond .ne 12, 16), (7, .iload_n 1, 0), (8, .ifCond .ne 8, 16), (11, .aload_n 0, 0), (12, .iload_n 2, 0), (13, .putfield 126, 0), (16, .aload_n 0, 0), (17, .getfield 126, 0), (20, .ifCond .ne 7, 27), (23, .iconst 1, 0)]), (1000000, [(24, .goto 4, 28), (27, .iconst 0, 0), (28, .ireturn, 0)])]
theorem ik_X12_right : (i_X12_right).all (fun q => q.2.all (pm_ckI cX12_right)) = true := by decide +kernel
def i_X12_within : List (Nat × List (Nat × Instr × Nat)) := [(1000000, [(0, .iload_n 0, 0), (1, .iload_n 1, 0), (2, .if_icmp .lt 12, 14), (5, .iload_n 0, 0), (6, .iload_n 2, 0), (7, .if_icmp .gt 7, 14), (10, .iconst 1, 0), (11, .goto 4, 15), (14, .iconst 0, 0), (15, .ireturn, 0)])]
theorem ik_X12_within : (i_X12_within).all (fun q => q.2.all (pm_ckI cX12_within)) = true := by decide +kernel
def i_X12_bounded : List (Nat × List (Nat × Instr × Nat)) := [(1000000, [(0, .iload_n 0, 0), (1, .iload_n 1, 0), (2, .if_icmp .ge 7, 9), (5, .iload_n 1, 0), (6, .goto 13, 19), (9, .iload_n 0, 0), (10, .iload_n 2, 0), (11, .if_icmp .le 7, 18), (14, .iload_n 2, 0), (15, .goto 4, 19), (18, .iload_n 0, 0), (19, .ireturn, 0)])]
theorem ik_X12_bounded : (i_X12_bounded).all (fun q => q.2.all (pm_ckI cX12_bounded)) = true := by decide +kernel
def i_X12_lesser : List (Nat × List (Nat × Instr × Nat)) := [(1000000, [(0, .iload_n 0, 0), (1, .iload_n 1, 0), (2, .if_icmp .ge 7, 9), (5, .iload_n 0, 0), (6, .goto 4, 10), (9, .iload_n 1, 0), (10, .ireturn, 0)])]
theorem ik_X12_lesser : (i_X12_lesser).all (fun q => q.2.all (pm_ckI cX12_lesser)) = true := by decide +kernel
def i_X12_copies : List (Nat × List (Nat × Instr × Nat)) := [(14, [(0, .iconst 0, 0), (1, .istore_n 3, 0), (2, .iload_n 3, 0), (3, .aload_n 1, 0), (4, .arraylength, 0), (5, .if_icmp .ge 15, 20), (8, .aload_n 2, 0), (9, .iload_n 3, 0), (10, .aload_n 1, 0), (11, .iload_n 3, 0), (12, .iaload, 0), (13, .iastore, 0)]), (1000000, [(14, .iinc 3 1, 0), (17, .goto (-15), 2), (20, .return_, 0)])]
theorem ik_X12_copies : (i_X12_copies).all (fun q => q.2.all (pm_ckI cX12_copies)) = true := by decide +kernel
def i_X12_bits : List (Nat × List (Nat × Instr × Nat)) := [(15, [(0, .iconst 0, 0), (1, .istore_n 1, 0), (2, .iconst 0, 0), (3, .istore_n 2, 0), (4, .iload_n 2, 0), (5, .bipush 8, 0), (7, .if_icmp .ge 17, 24), (10, .iload_n 1, 0), (11, .iload_n 0, 0), (12, .iload_n 2, 0), (13, .ishr, 0), (14, .iconst 1, 0)]), (1000000, [(15, .iand, 0), (16, .iadd, 0), (17, .istore_n 1, 0), (18, .iinc 2 1, 0), (21, .goto (-17), 4), (24, .iload_n 1, 0), (25, .ireturn, 0)])]
theorem ik_X12_bits : (i_X12_bits).all (fun q => q.2.all (pm_ckI cX12_bits)) = true := by decide +kernel
def i_X12_feed : List (Nat × List (Nat × Instr × Nat)) := [(21, [(0, .aload_n 0, 0), (1, .iconst 0, 0), (2, .putfield 126, 0), (5, .aload_n 0, 0), (6, .getfield 129, 0), (9, .bipush 20, 0), (11, .iadd, 0), (12, .sipush 700, 0), (15, .if_icmp .le 5, 20), (18, .iconst (-1), 0), (19, .ireturn, 0), (20, .aload_n 0, 0)]), (42, [(21, .iload_n 1, 0), (22, .invokevirtual 132, 0), (25, .aload_n 0, 0), (26, .iload_n 2, 0), (27, .invokevirtual 132, 0), (30, .aload_n 0, 0), (31, .iload_n 3, 0), (32, .invokevirtual 132, 0), (35, .aload_n 0, 0), (36, .iload 4, 0), (38, .invokevirtual 132, 0), (41, .aload_n 0, 0)]), (1000000, [(42, .iload 5, 0), (44, .invokevirtual 132, 0), (47, .aload_n 0, 0), (48, .getfield 129, 0), (51, .ireturn, 0)])]
theorem ik_X12_feed : (i_X12_feed).all (fun q => q.2.all (pm_ckI cX12_feed)) = true := by decide +kernel
def i_X12_lays : List (Nat × List (Nat × Instr × Nat)) := [(21, [(0, .bipush 24, 0), (2, .istore_n 2, 0), (3, .iload_n 2, 0), (4, .ifCond .lt 35, 39), (7, .aload_n 0, 0), (8, .getfield 41, 0), (11, .aload_n 0, 0), (12, .getfield 129, 0), (15, .iload_n 1, 0), (16, .iload_n 2, 0), (17, .ishr, 0), (18, .sipush 255, 0)]), (1000000, [(21, .iand, 0), (22, .iastore, 0), (23, .aload_n 0, 0), (24, .dup, 0), (25, .getfield 129, 0), (28, .iconst 1, 0), (29, .iadd, 0), (30, .putfield 129, 0), (33, .iinc 2 (-8), 0), (36, .goto (-33), 3), (39, .return_, 0)])]
theorem ik_X12_lays : (i_X12_lays).all (fun q => q.2.all (pm_ckI cX12_lays)) = true := by decide +kernel
def i_X12_byteAt : List (Nat × List (Nat × Instr × Nat)) := [(1000000, [(0, .iload_n 1, 0), (1, .aload_n 0, 0), (2, .getfield 136, 0), (5, .if_icmp .ge 12, 17), (8, .aload_n 0, 0), (9, .getfield 41, 0), (12, .iload_n 1, 0), (13, .iaload, 0), (14, .goto 4, 18), (17, .iconst 0, 0), (18, .ireturn, 0)])]
theorem ik_X12_byteAt : (i_X12_byteAt).all (fun q => q.2.all (pm_ckI cX12_byteAt)) = true := by decide +kernel
def i_X12_isLetter : List (Nat × List (Nat × Instr × Nat)) := [(1000000, [(0, .iload_n 0, 0), (1, .bipush 97, 0), (3, .if_icmp .lt 13, 16), (6, .iload_n 0, 0), (7, .bipush 122, 0), (9, .if_icmp .gt 7, 16), (12, .iconst 1, 0), (13, .goto 4, 17), (16, .iconst 0, 0), (17, .ireturn, 0)])]
theorem ik_X12_isLetter : (i_X12_isLetter).all (fun q => q.2.all (pm_ckI cX12_isLetter)) = true := by decide +kernel
def i_X12_isDigit : List (Nat × List (Nat × Instr × Nat)) := [(1000000, [(0, .iload_n 0, 0), (1, .bipush 48, 0), (3, .if_icmp .lt 13, 16), (6, .iload_n 0, 0), (7, .bipush 57, 0), (9, .if_icmp .gt 7, 16), (12, .iconst 1, 0), (13, .goto 4, 17), (16, .iconst 0, 0), (17, .ireturn, 0)])]
theorem ik_X12_isDigit : (i_X12_isDigit).all (fun q => q.2.all (pm_ckI cX12_isDigit)) = true := by decide +kernel
def i_X12_goes : List (Nat × List (Nat × Instr × Nat)) := [(25, [(0, .aload_n 0, 0), (1, .getfield 139, 0), (4, .aload_n 0, 0), (5, .getfield 136, 0), (8, .if_icmp .ge 42, 50), (11, .aload_n 0, 0), (12, .aload_n 0, 0), (13, .getfield 139, 0), (16, .invokevirtual 142, 0), (19, .bipush 32, 0), (21, .if_icmp .eq 16, 37), (24, .aload_n 0, 0)]), (50, [(25, .aload_n 0, 0), (26, .getfield 139, 0), (29, .invokevirtual 142, 0), (32, .bipush 10, 0), (34, .if_icmp .ne 16, 50), (37, .aload_n 0, 0), (38, .dup, 0), (39, .getfield 139, 0), (42, .iconst 1, 0), (43, .iadd, 0), (44, .putfield 139, 0), (47, .goto (-47), 0)]), (70, [(50, .aload_n 0, 0), (51, .aload_n 0, 0), (52, .getfield 139, 0), (55, .putfield 146, 0), (58, .aload_n 0, 0), (59, .lconst 0, 0), (60, .putfield 149, 0), (63, .aload_n 0, 0), (64, .iconst 0, 0), (65, .putfield 153, 0), (68, .aload_n 0, 0), (69, .aload_n 0, 0)]), (94, [(70, .getfield 139, 0), (73, .invokevirtual 142, 0), (76, .istore_n 1, 0), (77, .aload_n 0, 0), (78, .iload_n 1, 0), (79, .putfield 156, 0), (82, .aload_n 0, 0), (83, .getfield 139, 0), (86, .aload_n 0, 0), (87, .getfield 136, 0), (90, .if_icmp .lt 11, 101), (93, .aload_n 0, 0)]), (122, [(94, .iconst 0, 0), (95, .putfield 159, 0), (98, .goto 233, 331), (101, .iload_n 1, 0), (102, .invokestatic 162, 0), (105, .ifCond .eq 75, 180), (108, .aload_n 0, 0), (109, .aload_n 0, 0), (110, .getfield 139, 0), (113, .invokevirtual 142, 0), (116, .invokestatic 162, 0), (119, .ifCond .eq 53, 172)]), (143, [(122, .aload_n 0, 0), (123, .getfield 139, 0), (126, .aload_n 0, 0), (127, .getfield 146, 0), (130, .isub, 0), (131, .bipush 6, 0), (133, .if_icmp .ge 26, 159), (136, .aload_n 0, 0), (137, .aload_n 0, 0), (138, .getfield 149, 0), (141, .iconst 5, 0), (142, .lshl, 0)]), (164, [(143, .aload_n 0, 0), (144, .aload_n 0, 0), (145, .getfield 139, 0), (148, .invokevirtual 142, 0), (151, .bipush 96, 0), (153, .isub, 0), (154, .i2l, 0), (155, .lor, 0), (156, .putfield 149, 0), (159, .aload_n 0, 0), (160, .dup, 0), (161, .getfield 139, 0)]), (188, [(164, .iconst 1, 0), (165, .iadd, 0), (166, .putfield 139, 0), (169, .goto (-61), 108), (172, .aload_n 0, 0), (173, .iconst 1, 0), (174, .putfield 159, 0), (177, .goto 154, 331), (180, .iload_n 1, 0), (181, .invokestatic 166, 0), (184, .ifCond .eq 74, 258), (187, .aload_n 0, 0)]), (214, [(188, .aload_n 0, 0), (189, .getfield 139, 0), (192, .invokevirtual 142, 0), (195, .invokestatic 166, 0), (198, .ifCond .eq 52, 250), (201, .aload_n 0, 0), (202, .getfield 139, 0), (205, .aload_n 0, 0), (206, .getfield 146, 0), (209, .isub, 0), (210, .iconst 4, 0), (211, .if_icmp .ge 26, 237)]), (234, [(214, .aload_n 0, 0), (215, .bipush 10, 0), (217, .aload_n 0, 0), (218, .getfield 153, 0), (221, .imul, 0), (222, .aload_n 0, 0), (223, .aload_n 0, 0), (224, .getfield 139, 0), (227, .invokevirtual 142, 0), (230, .iadd, 0), (231, .bipush 48, 0), (233, .isub, 0)]), (258, [(234, .putfield 153, 0), (237, .aload_n 0, 0), (238, .dup, 0), (239, .getfield 139, 0), (242, .iconst 1, 0), (243, .iadd, 0), (244, .putfield 139, 0), (247, .goto (-60), 187), (250, .aload_n 0, 0), (251, .iconst 2, 0), (252, .putfield 159, 0), (255, .goto 76, 331)]), (278, [(258, .aload_n 0, 0), (259, .dup, 0), (260, .getfield 139, 0), (263, .iconst 1, 0), (264, .iadd, 0), (265, .putfield 139, 0), (268, .aload_n 0, 0), (269, .iload_n 1, 0), (270, .bipush 59, 0), (272, .if_icmp .eq 51, 323), (275, .iload_n 1, 0), (276, .bipush 40, 0)]), (302, [(278, .if_icmp .eq 45, 323), (281, .iload_n 1, 0), (282, .bipush 41, 0), (284, .if_icmp .eq 39, 323), (287, .iload_n 1, 0), (288, .bipush 43, 0), (290, .if_icmp .eq 33, 323), (293, .iload_n 1, 0), (294, .bipush 45, 0), (296, .if_icmp .eq 27, 323), (299, .iload_n 1, 0), (300, .bipush 42, 0)]), (327, [(302, .if_icmp .eq 21, 323), (305, .iload_n 1, 0), (306, .bipush 47, 0), (308, .if_icmp .eq 15, 323), (311, .iload_n 1, 0), (312, .bipush 60, 0), (314, .if_icmp .eq 9, 323), (317, .iload_n 1, 0), (318, .bipush 61, 0), (320, .if_icmp .ne 7, 327), (323, .iconst 3, 0), (324, .goto 4, 328)]), (1000000, [(327, .iconst 4, 0), (328, .putfield 159, 0), (331, .aload_n 0, 0), (332, .aload_n 0, 0), (333, .getfield 139, 0), (336, .aload_n 0, 0), (337, .getfield 146, 0), (340, .isub, 0), (341, .putfield 169, 0), (344, .return_, 0)])]
theorem ik_X12_goes : (i_X12_goes).all (fun q => q.2.all (pm_ckI cX12_goes)) = true := by decide +kernel
def i_X12_spelled : List (Nat × List (Nat × Instr × Nat)) := [(16, [(0, .iload_n 0, 0), (1, .i2l, 0), (2, .ldc2_w 172, 0), (5, .lsub, 0), (6, .iconst 5, 0), (7, .lshl, 0), (8, .iload_n 1, 0), (9, .bipush 96, 0), (11, .isub, 0), (12, .i2l, 0), (13, .lor, 0), (14, .lstore 6, 0)]), (33, [(16, .iload_n 2, 0), (17, .ifCond .eq 15, 32), (20, .lload 6, 0), (22, .iconst 5, 0), (23, .lshl, 0), (24, .iload_n 2, 0), (25, .bipush 96, 0), (27, .isub, 0), (28, .i2l, 0), (29, .lor, 0), (30, .lstore 6, 0), (32, .iload_n 3, 0)]), (53, [(33, .ifCond .eq 15, 48), (36, .lload 6, 0), (38, .iconst 5, 0), (39, .lshl, 0), (40, .iload_n 3, 0), (41, .bipush 96, 0), (43, .isub, 0), (44, .i2l, 0), (45, .lor, 0), (46, .lstore 6, 0), (48, .iload 4, 0), (50, .ifCond .eq 16, 66)]), (73, [(53, .lload 6, 0), (55, .iconst 5, 0), (56, .lshl, 0), (57, .iload 4, 0), (59, .bipush 96, 0), (61, .isub, 0), (62, .i2l, 0), (63, .lor, 0), (64, .lstore 6, 0), (66, .iload 5, 0), (68, .ifCond .eq 16, 84), (71, .lload 6, 0)]), (1000000, [(73, .iconst 5, 0), (74, .lshl, 0), (75, .iload 5, 0), (77, .bipush 96, 0), (79, .isub, 0), (80, .i2l, 0), (81, .lor, 0), (82, .lstore 6, 0), (84, .lload 6, 0), (86, .lreturn, 0)])]
theorem ik_X12_spelled : (i_X12_spelled).all (fun q => q.2.all (pm_ckI cX12_spelled)) = true := by decide +kernel
def i_X12_letters : List (Nat × List (Nat × Instr × Nat)) := [(94, [(0, .iload_n 0, 0), (1, .tableswitch 287 0 14 #[75, 89, 103, 118, 132, 146, 160, 175, 189, 205, 219, 233, 247, 262, 275], 0), (76, .bipush 115, 0), (78, .bipush 116, 0), (80, .bipush 101, 0), (82, .bipush 112, 0), (84, .iconst 0, 0), (85, .iconst 0, 0), (86, .invokestatic 174, 0), (89, .lreturn, 0), (90, .bipush 115, 0), (92, .bipush 111, 0)]), (115, [(94, .bipush 114, 0), (96, .bipush 101, 0), (98, .iconst 0, 0), (99, .iconst 0, 0), (100, .invokestatic 174, 0), (103, .lreturn, 0), (104, .bipush 108, 0), (106, .bipush 105, 0), (108, .bipush 103, 0), (110, .bipush 104, 0), (112, .bipush 116, 0), (114, .iconst 0, 0)]), (137, [(115, .invokestatic 174, 0), (118, .lreturn, 0), (119, .bipush 119, 0), (121, .bipush 105, 0), (123, .bipush 116, 0), (125, .bipush 104, 0), (127, .iconst 0, 0), (128, .iconst 0, 0), (129, .invokestatic 174, 0), (132, .lreturn, 0), (133, .bipush 104, 0), (135, .bipush 111, 0)]), (157, [(137, .bipush 117, 0), (139, .bipush 114, 0), (141, .iconst 0, 0), (142, .iconst 0, 0), (143, .invokestatic 174, 0), (146, .lreturn, 0), (147, .bipush 104, 0), (149, .bipush 101, 0), (151, .bipush 108, 0), (153, .bipush 100, 0), (155, .iconst 0, 0), (156, .iconst 0, 0)]), (180, [(157, .invokestatic 174, 0), (160, .lreturn, 0), (161, .bipush 116, 0), (163, .bipush 97, 0), (165, .bipush 98, 0), (167, .bipush 108, 0), (169, .bipush 101, 0), (171, .iconst 0, 0), (172, .invokestatic 174, 0), (175, .lreturn, 0), (176, .bipush 119, 0), (178, .bipush 97, 0)]), (202, [(180, .bipush 108, 0), (182, .bipush 108, 0), (184, .iconst 0, 0), (185, .iconst 0, 0), (186, .invokestatic 174, 0), (189, .lreturn, 0), (190, .bipush 102, 0), (192, .bipush 105, 0), (194, .bipush 103, 0), (196, .bipush 117, 0), (198, .bipush 114, 0), (200, .bipush 101, 0)]), (224, [(202, .invokestatic 174, 0), (205, .lreturn, 0), (206, .bipush 115, 0), (208, .bipush 101, 0), (210, .bipush 97, 0), (212, .bipush 116, 0), (214, .iconst 0, 0), (215, .iconst 0, 0), (216, .invokestatic 174, 0), (219, .lreturn, 0), (220, .bipush 100, 0), (222, .bipush 117, 0)]), (244, [(224, .bipush 108, 0), (226, .bipush 108, 0), (228, .iconst 0, 0), (229, .iconst 0, 0), (230, .invokestatic 174, 0), (233, .lreturn, 0), (234, .bipush 103, 0), (236, .bipush 111, 0), (238, .bipush 101, 0), (240, .bipush 115, 0), (242, .iconst 0, 0), (243, .iconst 0, 0)]), (267, [(244, .invokestatic 174, 0), (247, .lreturn, 0), (248, .bipush 104, 0), (250, .bipush 117, 0), (252, .bipush 114, 0), (254, .bipush 116, 0), (256, .bipush 115, 0), (258, .iconst 0, 0), (259, .invokestatic 174, 0), (262, .lreturn, 0), (263, .bipush 97, 0), (265, .bipush 110, 0)]), (284, [(267, .bipush 100, 0), (269, .iconst 0, 0), (270, .iconst 0, 0), (271, .iconst 0, 0), (272, .invokestatic 174, 0), (275, .lreturn, 0), (276, .bipush 111, 0), (278, .bipush 114, 0), (280, .iconst 0, 0), (281, .iconst 0, 0), (282, .iconst 0, 0), (283, .iconst 0, 0)]), (1000000, [(284, .invokestatic 174, 0), (287, .lreturn, 0), (288, .bipush 110, 0), (290, .bipush 111, 0), (292, .bipush 116, 0), (294, .iconst 0, 0), (295, .iconst 0, 0), (296, .iconst 0, 0), (297, .invokestatic 174, 0), (300, .lreturn, 0)])]
theorem ik_X12_letters : (i_X12_letters).all (fun q => q.2.all (pm_ckI cX12_letters)) = true := by decide +kernel
def i_X12_knownWord : List (Nat × List (Nat × Instr × Nat)) := [(21, [(0, .aload_n 0, 0), (1, .getfield 159, 0), (4, .iconst 1, 0), (5, .if_icmp .ne 12, 17), (8, .aload_n 0, 0), (9, .getfield 169, 0), (12, .bipush 6, 0), (14, .if_icmp .le 5, 19), (17, .iconst (-1), 0), (18, .ireturn, 0), (19, .iconst 0, 0), (20, .istore_n 1, 0)]), (44, [(21, .iload_n 1, 0), (22, .bipush 16, 0), (24, .if_icmp .ge 23, 47), (27, .iload_n 1, 0), (28, .invokestatic 178, 0), (31, .aload_n 0, 0), (32, .getfield 149, 0), (35, .lcmp, 0), (36, .ifCond .ne 5, 41), (39, .iload_n 1, 0), (40, .ireturn, 0), (41, .iinc 1 1, 0)]), (1000000, [(44, .goto (-23), 21), (47, .iconst (-1), 0), (48, .ireturn, 0)])]
theorem ik_X12_knownWord : (i_X12_knownWord).all (fun q => q.2.all (pm_ckI cX12_knownWord)) = true := by decide +kernel
def i_X12_wrong : List (Nat × List (Nat × Instr × Nat)) := [(1000000, [(0, .aload_n 0, 0), (1, .getfield 182, 0), (4, .ifCond .eq 4, 8), (7, .return_, 0), (8, .aload_n 0, 0), (9, .iload_n 1, 0), (10, .putfield 182, 0), (13, .aload_n 0, 0), (14, .aload_n 0, 0), (15, .getfield 146, 0), (18, .putfield 44, 0), (21, .return_, 0)])]
theorem ik_X12_wrong : (i_X12_wrong).all (fun q => q.2.all (pm_ckI cX12_wrong)) = true := by decide +kernel
def i_X12_isGood : List (Nat × List (Nat × Instr × Nat)) := [(1000000, [(0, .aload_n 0, 0), (1, .getfield 182, 0), (4, .ifCond .ne 7, 11), (7, .iconst 1, 0), (8, .goto 4, 12), (11, .iconst 0, 0), (12, .ireturn, 0)])]
theorem ik_X12_isGood : (i_X12_isGood).all (fun q => q.2.all (pm_ckI cX12_isGood)) = true := by decide +kernel
def i_X12_isSign : List (Nat × List (Nat × Instr × Nat)) := [(1000000, [(0, .aload_n 0, 0), (1, .getfield 159, 0), (4, .iconst 3, 0), (5, .if_icmp .ne 15, 20), (8, .aload_n 0, 0), (9, .getfield 156, 0), (12, .iload_n 1, 0), (13, .if_icmp .ne 7, 20), (16, .iconst 1, 0), (17, .goto 4, 21), (20, .iconst 0, 0), (21, .ireturn, 0)])]
theorem ik_X12_isSign : (i_X12_isSign).all (fun q => q.2.all (pm_ckI cX12_isSign)) = true := by decide +kernel
def i_X12_need : List (Nat × List (Nat × Instr × Nat)) := [(24, [(0, .aload_n 0, 0), (1, .invokevirtual 185, 0), (4, .ifCond .ne 4, 8), (7, .return_, 0), (8, .iload_n 1, 0), (9, .ifCond .eq 10, 19), (12, .aload_n 0, 0), (13, .invokevirtual 189, 0), (16, .goto 8, 24), (19, .aload_n 0, 0), (20, .iconst 1, 0), (21, .invokevirtual 192, 0)]), (1000000, [(24, .return_, 0)])]
theorem ik_X12_need : (i_X12_need).all (fun q => q.2.all (pm_ckI cX12_need)) = true := by decide +kernel
def i_X12_number : List (Nat × List (Nat × Instr × Nat)) := [(22, [(0, .aload_n 0, 0), (1, .invokevirtual 185, 0), (4, .ifCond .ne 5, 9), (7, .iconst 0, 0), (8, .ireturn, 0), (9, .aload_n 0, 0), (10, .getfield 159, 0), (13, .iconst 2, 0), (14, .if_icmp .eq 11, 25), (17, .aload_n 0, 0), (18, .iconst 1, 0), (19, .invokevirtual 192, 0)]), (46, [(22, .goto 32, 54), (25, .aload_n 0, 0), (26, .getfield 169, 0), (29, .iconst 4, 0), (30, .if_icmp .gt 19, 49), (33, .aload_n 0, 0), (34, .getfield 153, 0), (37, .iload_n 1, 0), (38, .if_icmp .lt 11, 49), (41, .aload_n 0, 0), (42, .getfield 153, 0), (45, .iload_n 2, 0)]), (70, [(46, .if_icmp .le 8, 54), (49, .aload_n 0, 0), (50, .iconst 2, 0), (51, .invokevirtual 192, 0), (54, .aload_n 0, 0), (55, .getfield 153, 0), (58, .istore_n 3, 0), (59, .aload_n 0, 0), (60, .invokevirtual 185, 0), (63, .ifCond .eq 7, 70), (66, .aload_n 0, 0), (67, .invokevirtual 189, 0)]), (1000000, [(70, .iload_n 3, 0), (71, .ireturn, 0)])]
theorem ik_X12_number : (i_X12_number).all (fun q => q.2.all (pm_ckI cX12_number)) = true := by decide +kernel
def i_X12_cellHere : List (Nat × List (Nat × Instr × Nat)) := [(22, [(0, .aload_n 0, 0), (1, .invokevirtual 185, 0), (4, .ifCond .ne 5, 9), (7, .iconst 0, 0), (8, .ireturn, 0), (9, .aload_n 0, 0), (10, .getfield 159, 0), (13, .iconst 2, 0), (14, .if_icmp .eq 11, 25), (17, .aload_n 0, 0), (18, .iconst 1, 0), (19, .invokevirtual 192, 0)]), (46, [(22, .goto 64, 86), (25, .aload_n 0, 0), (26, .getfield 169, 0), (29, .iconst 4, 0), (30, .if_icmp .le 11, 41), (33, .aload_n 0, 0), (34, .iconst 2, 0), (35, .invokevirtual 192, 0), (38, .goto 48, 86), (41, .aload_n 0, 0), (42, .getfield 153, 0), (45, .aload_n 0, 0)]), (71, [(46, .getfield 195, 0), (49, .aload_n 0, 0), (50, .getfield 198, 0), (53, .imul, 0), (54, .if_icmp .lt 11, 65), (57, .aload_n 0, 0), (58, .iconst 3, 0), (59, .invokevirtual 192, 0), (62, .goto 24, 86), (65, .aload_n 0, 0), (66, .getfield 62, 0), (69, .bipush 33, 0)]), (1000000, [(71, .aload_n 0, 0), (72, .getfield 153, 0), (75, .iadd, 0), (76, .iaload, 0), (77, .iconst 1, 0), (78, .if_icmp .ne 8, 86), (81, .aload_n 0, 0), (82, .iconst 4, 0), (83, .invokevirtual 192, 0), (86, .aload_n 0, 0), (87, .getfield 153, 0), (90, .ireturn, 0)])]
theorem ik_X12_cellHere : (i_X12_cellHere).all (fun q => q.2.all (pm_ckI cX12_cellHere)) = true := by decide +kernel
def i_X12_puts : List (Nat × List (Nat × Instr × Nat)) := [(20, [(0, .aload_n 0, 0), (1, .getfield 65, 0), (4, .aload_n 0, 0), (5, .getfield 201, 0), (8, .iload_n 1, 0), (9, .iastore, 0), (10, .aload_n 0, 0), (11, .dup, 0), (12, .getfield 201, 0), (15, .iconst 1, 0), (16, .iadd, 0), (17, .putfield 201, 0)]), (1000000, [(20, .return_, 0)])]
theorem ik_X12_puts : (i_X12_puts).all (fun q => q.2.all (pm_ckI cX12_puts)) = true := by decide +kernel
def i_X12_isOpen : List (Nat × List (Nat × Instr × Nat)) := [(1000000, [(0, .iload_n 0, 0), (1, .bipush 14, 0), (3, .if_icmp .lt 7, 10), (6, .iconst 1, 0), (7, .goto 4, 11), (10, .iconst 0, 0), (11, .ireturn, 0)])]
theorem ik_X12_isOpen : (i_X12_isOpen).all (fun q => q.2.all (pm_ckI cX12_isOpen)) = true := by decide +kernel
def i_X12_strength : List (Nat × List (Nat × Instr × Nat)) := [(20, [(0, .iload_n 0, 0), (1, .iconst 5, 0), (2, .if_icmp .ne 7, 9), (5, .iconst 1, 0), (6, .goto 55, 61), (9, .iload_n 0, 0), (10, .iconst 4, 0), (11, .if_icmp .ne 7, 18), (14, .iconst 2, 0), (15, .goto 46, 61), (18, .iload_n 0, 0), (19, .iconst 3, 0)]), (44, [(20, .if_icmp .ne 7, 27), (23, .iconst 3, 0), (24, .goto 37, 61), (27, .iload_n 0, 0), (28, .bipush 6, 0), (30, .if_icmp .eq 9, 39), (33, .iload_n 0, 0), (34, .bipush 7, 0), (36, .if_icmp .ne 7, 43), (39, .iconst 4, 0), (40, .goto 21, 61), (43, .iload_n 0, 0)]), (1000000, [(44, .bipush 8, 0), (46, .if_icmp .eq 9, 55), (49, .iload_n 0, 0), (50, .bipush 9, 0), (52, .if_icmp .ne 7, 59), (55, .iconst 5, 0), (56, .goto 5, 61), (59, .bipush 6, 0), (61, .ireturn, 0)])]
theorem ik_X12_strength : (i_X12_strength).all (fun q => q.2.all (pm_ckI cX12_strength)) = true := by decide +kernel
def i_X12_drops : List (Nat × List (Nat × Instr × Nat)) := [(24, [(0, .aload_n 0, 0), (1, .getfield 204, 0), (4, .ifCond .le 64, 68), (7, .aload_n 0, 0), (8, .getfield 68, 0), (11, .aload_n 0, 0), (12, .getfield 204, 0), (15, .iconst 1, 0), (16, .isub, 0), (17, .iaload, 0), (18, .invokestatic 207, 0), (21, .ifCond .ne 47, 68)]), (44, [(24, .aload_n 0, 0), (25, .getfield 68, 0), (28, .aload_n 0, 0), (29, .getfield 204, 0), (32, .iconst 1, 0), (33, .isub, 0), (34, .iaload, 0), (35, .invokestatic 210, 0), (38, .iload_n 1, 0), (39, .if_icmp .lt 29, 68), (42, .aload_n 0, 0), (43, .dup, 0)]), (68, [(44, .getfield 204, 0), (47, .iconst 1, 0), (48, .isub, 0), (49, .putfield 204, 0), (52, .aload_n 0, 0), (53, .aload_n 0, 0), (54, .getfield 68, 0), (57, .aload_n 0, 0), (58, .getfield 204, 0), (61, .iaload, 0), (62, .invokevirtual 213, 0), (65, .goto (-65), 0)]), (1000000, [(68, .return_, 0)])]
theorem ik_X12_drops : (i_X12_drops).all (fun q => q.2.all (pm_ckI cX12_drops)) = true := by decide +kernel
def i_X12_waitsFor : List (Nat × List (Nat × Instr × Nat)) := [(20, [(0, .aload_n 0, 0), (1, .getfield 68, 0), (4, .aload_n 0, 0), (5, .getfield 204, 0), (8, .iload_n 1, 0), (9, .iastore, 0), (10, .aload_n 0, 0), (11, .dup, 0), (12, .getfield 204, 0), (15, .iconst 1, 0), (16, .iadd, 0), (17, .putfield 204, 0)]), (1000000, [(20, .return_, 0)])]
theorem ik_X12_waitsFor : (i_X12_waitsFor).all (fun q => q.2.all (pm_ckI cX12_waitsFor)) = true := by decide +kernel
def i_X12_part : List (Nat × List (Nat × Instr × Nat)) := [(24, [(0, .aload_n 0, 0), (1, .invokevirtual 185, 0), (4, .ifCond .ne 4, 8), (7, .return_, 0), (8, .aload_n 0, 0), (9, .getfield 159, 0), (12, .iconst 2, 0), (13, .if_icmp .ne 32, 45), (16, .aload_n 0, 0), (17, .getfield 169, 0), (20, .iconst 4, 0), (21, .if_icmp .le 8, 29)]), (46, [(24, .aload_n 0, 0), (25, .iconst 2, 0), (26, .invokevirtual 192, 0), (29, .aload_n 0, 0), (30, .iconst 1, 0), (31, .invokevirtual 213, 0), (34, .aload_n 0, 0), (35, .aload_n 0, 0), (36, .getfield 153, 0), (39, .invokevirtual 213, 0), (42, .goto 55, 97), (45, .aload_n 0, 0)]), (68, [(46, .getfield 159, 0), (49, .iconst 1, 0), (50, .if_icmp .ne 42, 92), (53, .aload_n 0, 0), (54, .invokevirtual 216, 0), (57, .istore_n 1, 0), (58, .iload_n 1, 0), (59, .aload_n 0, 0), (60, .getfield 220, 0), (63, .if_icmp .lt 11, 74), (66, .iload_n 1, 0), (67, .aload_n 0, 0)]), (92, [(68, .getfield 223, 0), (71, .if_icmp .le 8, 79), (74, .aload_n 0, 0), (75, .iconst 3, 0), (76, .invokevirtual 192, 0), (79, .aload_n 0, 0), (80, .iconst 2, 0), (81, .invokevirtual 213, 0), (84, .aload_n 0, 0), (85, .iload_n 1, 0), (86, .invokevirtual 213, 0), (89, .goto 8, 97)]), (1000000, [(92, .aload_n 0, 0), (93, .iconst 1, 0), (94, .invokevirtual 192, 0), (97, .aload_n 0, 0), (98, .invokevirtual 185, 0), (101, .ifCond .eq 7, 108), (104, .aload_n 0, 0), (105, .invokevirtual 189, 0), (108, .return_, 0)])]
theorem ik_X12_part : (i_X12_part).all (fun q => q.2.all (pm_ckI cX12_part)) = true := by decide +kernel
def i_X12_deeper : List (Nat × List (Nat × Instr × Nat)) := [(23, [(0, .aload_n 0, 0), (1, .getfield 226, 0), (4, .bipush 6, 0), (6, .if_icmp .ge 24, 30), (9, .aload_n 0, 0), (10, .dup, 0), (11, .getfield 226, 0), (14, .iconst 1, 0), (15, .iadd, 0), (16, .putfield 226, 0), (19, .aload_n 0, 0), (20, .getfield 71, 0)]), (43, [(23, .aload_n 0, 0), (24, .getfield 226, 0), (27, .iconst 0, 0), (28, .bastore, 0), (29, .return_, 0), (30, .aload_n 0, 0), (31, .aload_n 0, 0), (32, .getfield 159, 0), (35, .iconst 2, 0), (36, .if_icmp .eq 20, 56), (39, .aload_n 0, 0), (40, .getfield 159, 0)]), (1000000, [(43, .iconst 1, 0), (44, .if_icmp .eq 12, 56), (47, .aload_n 0, 0), (48, .bipush 40, 0), (50, .invokevirtual 229, 0), (53, .ifCond .eq 7, 60), (56, .iconst 2, 0), (57, .goto 4, 61), (60, .iconst 1, 0), (61, .invokevirtual 192, 0), (64, .return_, 0)])]
theorem ik_X12_deeper : (i_X12_deeper).all (fun q => q.2.all (pm_ckI cX12_deeper)) = true := by decide +kernel
def i_X12_operand : List (Nat × List (Nat × Instr × Nat)) := [(19, [(0, .iload_n 1, 0), (1, .istore_n 2, 0), (2, .iconst 1, 0), (3, .istore_n 3, 0), (4, .iload_n 3, 0), (5, .ifCond .eq 115, 120), (8, .aload_n 0, 0), (9, .invokevirtual 185, 0), (12, .ifCond .eq 108, 120), (15, .iconst 0, 0), (16, .istore 4, 0), (18, .aload_n 0, 0)]), (46, [(19, .invokevirtual 185, 0), (22, .ifCond .eq 53, 75), (25, .iload_n 2, 0), (26, .ifCond .eq 49, 75), (29, .aload_n 0, 0), (30, .invokevirtual 216, 0), (33, .bipush 15, 0), (35, .if_icmp .ne 40, 75), (38, .iload 4, 0), (40, .bipush 6, 0), (42, .if_icmp .ne 8, 50), (45, .aload_n 0, 0)]), (72, [(46, .iconst 2, 0), (47, .invokevirtual 192, 0), (50, .iinc 4 1, 0), (53, .aload_n 0, 0), (54, .invokevirtual 185, 0), (57, .ifCond .ne 6, 63), (60, .goto (-42), 18), (63, .aload_n 0, 0), (64, .iconst 3, 0), (65, .invokevirtual 232, 0), (68, .aload_n 0, 0), (69, .invokevirtual 189, 0)]), (97, [(72, .goto (-54), 18), (75, .aload_n 0, 0), (76, .invokevirtual 185, 0), (79, .ifCond .eq 16, 95), (82, .aload_n 0, 0), (83, .bipush 40, 0), (85, .invokevirtual 229, 0), (88, .ifCond .eq 7, 95), (91, .iconst 1, 0), (92, .goto 4, 96), (95, .iconst 0, 0), (96, .istore_n 3, 0)]), (120, [(97, .iload_n 3, 0), (98, .ifCond .eq 19, 117), (101, .aload_n 0, 0), (102, .bipush 14, 0), (104, .invokevirtual 232, 0), (107, .aload_n 0, 0), (108, .invokevirtual 189, 0), (111, .aload_n 0, 0), (112, .invokevirtual 235, 0), (115, .iconst 1, 0), (116, .istore_n 2, 0), (117, .goto (-113), 4)]), (1000000, [(120, .aload_n 0, 0), (121, .invokevirtual 238, 0), (124, .return_, 0)])]
theorem ik_X12_operand : (i_X12_operand).all (fun q => q.2.all (pm_ckI cX12_operand)) = true := by decide +kernel
def i_X12_isOpened : List (Nat × List (Nat × Instr × Nat)) := [(20, [(0, .aload_n 0, 0), (1, .getfield 204, 0), (4, .iconst 1, 0), (5, .isub, 0), (6, .istore_n 1, 0), (7, .iload_n 1, 0), (8, .ifCond .lt 21, 29), (11, .aload_n 0, 0), (12, .getfield 68, 0), (15, .iload_n 1, 0), (16, .iaload, 0), (17, .invokestatic 207, 0)]), (1000000, [(20, .ifCond .ne 9, 29), (23, .iinc 1 (-1), 0), (26, .goto (-19), 7), (29, .iload_n 1, 0), (30, .ifCond .lt 7, 37), (33, .iconst 1, 0), (34, .goto 4, 38), (37, .iconst 0, 0), (38, .ireturn, 0)])]
theorem ik_X12_isOpened : (i_X12_isOpened).all (fun q => q.2.all (pm_ckI cX12_isOpened)) = true := by decide +kernel
def i_X12_closes : List (Nat × List (Nat × Instr × Nat)) := [(20, [(0, .aload_n 0, 0), (1, .iconst 0, 0), (2, .invokevirtual 241, 0), (5, .aload_n 0, 0), (6, .dup, 0), (7, .getfield 204, 0), (10, .iconst 1, 0), (11, .isub, 0), (12, .putfield 204, 0), (15, .aload_n 0, 0), (16, .dup, 0), (17, .getfield 226, 0)]), (1000000, [(20, .iconst 1, 0), (21, .isub, 0), (22, .putfield 226, 0), (25, .aload_n 0, 0), (26, .invokevirtual 189, 0), (29, .return_, 0)])]
theorem ik_X12_closes : (i_X12_closes).all (fun q => q.2.all (pm_ckI cX12_closes)) = true := by decide +kernel
def i_X12_expression : List (Nat × List (Nat × Instr × Nat)) := [(20, [(0, .aload_n 0, 0), (1, .invokevirtual 185, 0), (4, .ifCond .ne 4, 8), (7, .return_, 0), (8, .aload_n 0, 0), (9, .iload_n 1, 0), (10, .putfield 220, 0), (13, .aload_n 0, 0), (14, .iload_n 2, 0), (15, .putfield 223, 0), (18, .aload_n 0, 0), (19, .iconst 0, 0)]), (40, [(20, .putfield 204, 0), (23, .aload_n 0, 0), (24, .iconst 0, 0), (25, .putfield 226, 0), (28, .aload_n 0, 0), (29, .invokevirtual 235, 0), (32, .aload_n 0, 0), (33, .iconst 1, 0), (34, .invokevirtual 244, 0), (37, .iconst 1, 0), (38, .istore_n 3, 0), (39, .iload_n 3, 0)]), (67, [(40, .ifCond .eq 300, 340), (43, .aload_n 0, 0), (44, .invokevirtual 185, 0), (47, .ifCond .eq 293, 340), (50, .aload_n 0, 0), (51, .invokevirtual 216, 0), (54, .istore 4, 0), (56, .iload 4, 0), (58, .bipush 13, 0), (60, .if_icmp .eq 10, 70), (63, .iload 4, 0), (65, .bipush 14, 0)]), (91, [(67, .if_icmp .ne 57, 124), (70, .aload_n 0, 0), (71, .iload 4, 0), (73, .bipush 13, 0), (75, .if_icmp .ne 7, 82), (78, .iconst 2, 0), (79, .goto 4, 83), (82, .iconst 1, 0), (83, .invokevirtual 241, 0), (86, .aload_n 0, 0), (87, .iload 4, 0), (89, .bipush 13, 0)]), (113, [(91, .if_icmp .ne 7, 98), (94, .iconst 4, 0), (95, .goto 4, 99), (98, .iconst 5, 0), (99, .invokevirtual 232, 0), (102, .aload_n 0, 0), (103, .getfield 71, 0), (106, .aload_n 0, 0), (107, .getfield 226, 0), (110, .iconst 0, 0), (111, .bastore, 0), (112, .aload_n 0, 0)]), (139, [(113, .invokevirtual 189, 0), (116, .aload_n 0, 0), (117, .iconst 1, 0), (118, .invokevirtual 244, 0), (121, .goto 216, 337), (124, .aload_n 0, 0), (125, .bipush 60, 0), (127, .invokevirtual 229, 0), (130, .ifCond .ne 12, 142), (133, .aload_n 0, 0), (134, .bipush 61, 0), (136, .invokevirtual 229, 0)]), (161, [(139, .ifCond .eq 62, 201), (142, .aload_n 0, 0), (143, .getfield 71, 0), (146, .aload_n 0, 0), (147, .getfield 226, 0), (150, .baload, 0), (151, .ifCond .ne 50, 201), (154, .aload_n 0, 0), (155, .iconst 4, 0), (156, .invokevirtual 241, 0), (159, .aload_n 0, 0), (160, .aload_n 0, 0)]), (188, [(161, .bipush 60, 0), (163, .invokevirtual 229, 0), (166, .ifCond .eq 8, 174), (169, .bipush 6, 0), (171, .goto 5, 176), (174, .bipush 7, 0), (176, .invokevirtual 232, 0), (179, .aload_n 0, 0), (180, .getfield 71, 0), (183, .aload_n 0, 0), (184, .getfield 226, 0), (187, .iconst 1, 0)]), (211, [(188, .bastore, 0), (189, .aload_n 0, 0), (190, .invokevirtual 189, 0), (193, .aload_n 0, 0), (194, .iconst 0, 0), (195, .invokevirtual 244, 0), (198, .goto 139, 337), (201, .aload_n 0, 0), (202, .bipush 43, 0), (204, .invokevirtual 229, 0), (207, .ifCond .ne 12, 219), (210, .aload_n 0, 0)]), (236, [(211, .bipush 45, 0), (213, .invokevirtual 229, 0), (216, .ifCond .eq 40, 256), (219, .aload_n 0, 0), (220, .iconst 5, 0), (221, .invokevirtual 241, 0), (224, .aload_n 0, 0), (225, .aload_n 0, 0), (226, .bipush 43, 0), (228, .invokevirtual 229, 0), (231, .ifCond .eq 8, 239), (234, .bipush 8, 0)]), (262, [(236, .goto 5, 241), (239, .bipush 9, 0), (241, .invokevirtual 232, 0), (244, .aload_n 0, 0), (245, .invokevirtual 189, 0), (248, .aload_n 0, 0), (249, .iconst 0, 0), (250, .invokevirtual 244, 0), (253, .goto 84, 337), (256, .aload_n 0, 0), (257, .bipush 42, 0), (259, .invokevirtual 229, 0)]), (287, [(262, .ifCond .ne 12, 274), (265, .aload_n 0, 0), (266, .bipush 47, 0), (268, .invokevirtual 229, 0), (271, .ifCond .eq 41, 312), (274, .aload_n 0, 0), (275, .bipush 6, 0), (277, .invokevirtual 241, 0), (280, .aload_n 0, 0), (281, .aload_n 0, 0), (282, .bipush 42, 0), (284, .invokevirtual 229, 0)]), (313, [(287, .ifCond .eq 8, 295), (290, .bipush 10, 0), (292, .goto 5, 297), (295, .bipush 11, 0), (297, .invokevirtual 232, 0), (300, .aload_n 0, 0), (301, .invokevirtual 189, 0), (304, .aload_n 0, 0), (305, .iconst 0, 0), (306, .invokevirtual 244, 0), (309, .goto 28, 337), (312, .aload_n 0, 0)]), (340, [(313, .bipush 41, 0), (315, .invokevirtual 229, 0), (318, .ifCond .eq 17, 335), (321, .aload_n 0, 0), (322, .invokevirtual 248, 0), (325, .ifCond .eq 10, 335), (328, .aload_n 0, 0), (329, .invokevirtual 251, 0), (332, .goto 5, 337), (335, .iconst 0, 0), (336, .istore_n 3, 0), (337, .goto (-298), 39)]), (362, [(340, .aload_n 0, 0), (341, .invokevirtual 185, 0), (344, .ifCond .eq 16, 360), (347, .aload_n 0, 0), (348, .getfield 226, 0), (351, .iconst 1, 0), (352, .if_icmp .le 8, 360), (355, .aload_n 0, 0), (356, .iconst 1, 0), (357, .invokevirtual 192, 0), (360, .aload_n 0, 0), (361, .iconst 0, 0)]), (1000000, [(362, .invokevirtual 241, 0), (365, .aload_n 0, 0), (366, .iconst 0, 0), (367, .invokevirtual 213, 0), (370, .return_, 0)])]
theorem ik_X12_expression : (i_X12_expression).all (fun q => q.2.all (pm_ckI cX12_expression)) = true := by decide +kernel
def i_X12_begins : List (Nat × List (Nat × Instr × Nat)) := [(22, [(0, .iload_n 1, 0), (1, .ifCond .eq 8, 9), (4, .aload_n 0, 0), (5, .iconst 2, 0), (6, .invokevirtual 192, 0), (9, .iload_n 2, 0), (10, .ifCond .eq 8, 18), (13, .aload_n 0, 0), (14, .iconst 5, 0), (15, .invokevirtual 192, 0), (18, .aload_n 0, 0), (19, .invokevirtual 185, 0)]), (1000000, [(22, .ifCond .ne 5, 27), (25, .iconst 0, 0), (26, .ireturn, 0), (27, .aload_n 0, 0), (28, .invokevirtual 189, 0), (31, .iconst 1, 0), (32, .ireturn, 0)])]
theorem ik_X12_begins : (i_X12_begins).all (fun q => q.2.all (pm_ckI cX12_begins)) = true := by decide +kernel
def i_X12_readsWall : List (Nat × List (Nat × Instr × Nat)) := [(20, [(0, .aload_n 0, 0), (1, .invokevirtual 254, 0), (4, .istore_n 1, 0), (5, .aload_n 0, 0), (6, .invokevirtual 185, 0), (9, .ifCond .ne 4, 13), (12, .return_, 0), (13, .iconst 0, 0), (14, .istore_n 2, 0), (15, .iload_n 2, 0), (16, .aload_n 0, 0), (17, .getfield 257, 0)]), (40, [(20, .if_icmp .ge 26, 46), (23, .aload_n 0, 0), (24, .getfield 62, 0), (27, .iconst 1, 0), (28, .iload_n 2, 0), (29, .iadd, 0), (30, .iaload, 0), (31, .iload_n 1, 0), (32, .if_icmp .ne 8, 40), (35, .aload_n 0, 0), (36, .iconst 4, 0), (37, .invokevirtual 192, 0)]), (62, [(40, .iinc 2 1, 0), (43, .goto (-28), 15), (46, .iconst 0, 0), (47, .istore_n 2, 0), (48, .iload_n 2, 0), (49, .aload_n 0, 0), (50, .getfield 260, 0), (53, .if_icmp .ge 24, 77), (56, .aload_n 0, 0), (57, .getfield 56, 0), (60, .iload_n 2, 0), (61, .iaload, 0)]), (86, [(62, .iload_n 1, 0), (63, .if_icmp .ne 8, 71), (66, .aload_n 0, 0), (67, .iconst 4, 0), (68, .invokevirtual 192, 0), (71, .iinc 2 1, 0), (74, .goto (-26), 48), (77, .aload_n 0, 0), (78, .invokevirtual 185, 0), (81, .ifCond .ne 4, 85), (84, .return_, 0), (85, .aload_n 0, 0)]), (1000000, [(86, .getfield 62, 0), (89, .bipush 33, 0), (91, .iload_n 1, 0), (92, .iadd, 0), (93, .iconst 1, 0), (94, .iastore, 0), (95, .aload_n 0, 0), (96, .invokevirtual 189, 0), (99, .return_, 0)])]
theorem ik_X12_readsWall : (i_X12_readsWall).all (fun q => q.2.all (pm_ckI cX12_readsWall)) = true := by decide +kernel
def i_X12_readsFigure : List (Nat × List (Nat × Instr × Nat)) := [(18, [(0, .aload_n 0, 0), (1, .getfield 257, 0), (4, .istore_n 1, 0), (5, .aload_n 0, 0), (6, .getfield 62, 0), (9, .iconst 1, 0), (10, .iload_n 1, 0), (11, .iadd, 0), (12, .aload_n 0, 0), (13, .invokevirtual 254, 0), (16, .iastore, 0), (17, .aload_n 0, 0)]), (38, [(18, .invokevirtual 185, 0), (21, .ifCond .ne 4, 25), (24, .return_, 0), (25, .aload_n 0, 0), (26, .invokevirtual 189, 0), (29, .iconst 0, 0), (30, .istore_n 2, 0), (31, .iconst 1, 0), (32, .istore_n 3, 0), (33, .iload_n 3, 0), (34, .ifCond .eq 78, 112), (37, .aload_n 0, 0)]), (63, [(38, .invokevirtual 185, 0), (41, .ifCond .eq 71, 112), (44, .iload_n 2, 0), (45, .bipush 8, 0), (47, .if_icmp .ne 16, 63), (50, .aload_n 0, 0), (51, .getfield 159, 0), (54, .iconst 2, 0), (55, .if_icmp .ne 8, 63), (58, .aload_n 0, 0), (59, .iconst 2, 0), (60, .invokevirtual 192, 0)]), (85, [(63, .aload_n 0, 0), (64, .iconst 0, 0), (65, .iconst 4, 0), (66, .invokevirtual 263, 0), (69, .istore 4, 0), (71, .aload_n 0, 0), (72, .invokevirtual 185, 0), (75, .ifCond .ne 4, 79), (78, .return_, 0), (79, .aload_n 0, 0), (80, .getfield 53, 0), (83, .bipush 8, 0)]), (104, [(85, .iload_n 1, 0), (86, .imul, 0), (87, .iload_n 2, 0), (88, .iadd, 0), (89, .iload 4, 0), (91, .iastore, 0), (92, .iinc 2 1, 0), (95, .aload_n 0, 0), (96, .getfield 159, 0), (99, .iconst 2, 0), (100, .if_icmp .ne 7, 107), (103, .iconst 1, 0)]), (124, [(104, .goto 4, 108), (107, .iconst 0, 0), (108, .istore_n 3, 0), (109, .goto (-76), 33), (112, .aload_n 0, 0), (113, .getfield 50, 0), (116, .iload_n 1, 0), (117, .iload_n 2, 0), (118, .iastore, 0), (119, .aload_n 0, 0), (120, .dup, 0), (121, .getfield 257, 0)]), (1000000, [(124, .iconst 1, 0), (125, .iadd, 0), (126, .putfield 257, 0), (129, .return_, 0)])]
theorem ik_X12_readsFigure : (i_X12_readsFigure).all (fun q => q.2.all (pm_ckI cX12_readsFigure)) = true := by decide +kernel
def i_X12_readsSeat : List (Nat × List (Nat × Instr × Nat)) := [(22, [(0, .aload_n 0, 0), (1, .getfield 56, 0), (4, .aload_n 0, 0), (5, .getfield 260, 0), (8, .aload_n 0, 0), (9, .invokevirtual 254, 0), (12, .iastore, 0), (13, .aload_n 0, 0), (14, .invokevirtual 185, 0), (17, .ifCond .ne 4, 21), (20, .return_, 0), (21, .aload_n 0, 0)]), (1000000, [(22, .invokevirtual 189, 0), (25, .aload_n 0, 0), (26, .dup, 0), (27, .getfield 260, 0), (30, .iconst 1, 0), (31, .iadd, 0), (32, .putfield 260, 0), (35, .return_, 0)])]
theorem ik_X12_readsSeat : (i_X12_readsSeat).all (fun q => q.2.all (pm_ckI cX12_readsSeat)) = true := by decide +kernel
def i_X12_readsLight : List (Nat × List (Nat × Instr × Nat)) := [(22, [(0, .aload_n 0, 0), (1, .iconst 0, 0), (2, .putfield 267, 0), (5, .iconst 1, 0), (6, .istore_n 1, 0), (7, .iload_n 1, 0), (8, .ifCond .eq 85, 93), (11, .aload_n 0, 0), (12, .invokevirtual 185, 0), (15, .ifCond .eq 78, 93), (18, .aload_n 0, 0), (19, .getfield 267, 0)]), (44, [(22, .bipush 8, 0), (24, .if_icmp .ne 16, 40), (27, .aload_n 0, 0), (28, .getfield 159, 0), (31, .iconst 2, 0), (32, .if_icmp .ne 8, 40), (35, .aload_n 0, 0), (36, .iconst 2, 0), (37, .invokevirtual 192, 0), (40, .aload_n 0, 0), (41, .iconst 0, 0), (42, .bipush 9, 0)]), (66, [(44, .invokevirtual 263, 0), (47, .istore_n 2, 0), (48, .aload_n 0, 0), (49, .invokevirtual 185, 0), (52, .ifCond .ne 4, 56), (55, .return_, 0), (56, .aload_n 0, 0), (57, .getfield 59, 0), (60, .aload_n 0, 0), (61, .getfield 267, 0), (64, .iload_n 2, 0), (65, .iastore, 0)]), (88, [(66, .aload_n 0, 0), (67, .dup, 0), (68, .getfield 267, 0), (71, .iconst 1, 0), (72, .iadd, 0), (73, .putfield 267, 0), (76, .aload_n 0, 0), (77, .getfield 159, 0), (80, .iconst 2, 0), (81, .if_icmp .ne 7, 88), (84, .iconst 1, 0), (85, .goto 4, 89)]), (1000000, [(88, .iconst 0, 0), (89, .istore_n 1, 0), (90, .goto (-83), 7), (93, .return_, 0)])]
theorem ik_X12_readsLight : (i_X12_readsLight).all (fun q => q.2.all (pm_ckI cX12_readsLight)) = true := by decide +kernel
def i_X12_line : List (Nat × List (Nat × Instr × Nat)) := [(21, [(0, .aload_n 0, 0), (1, .invokevirtual 216, 0), (4, .istore_n 1, 0), (5, .iload_n 1, 0), (6, .bipush 7, 0), (8, .if_icmp .ne 19, 27), (11, .aload_n 0, 0), (12, .iconst 0, 0), (13, .iconst 0, 0), (14, .invokevirtual 270, 0), (17, .ifCond .eq 246, 263), (20, .aload_n 0, 0)]), (47, [(21, .invokevirtual 274, 0), (24, .goto 239, 263), (27, .iload_n 1, 0), (28, .bipush 8, 0), (30, .if_icmp .ne 32, 62), (33, .aload_n 0, 0), (34, .aload_n 0, 0), (35, .getfield 257, 0), (38, .bipush 8, 0), (40, .if_icmp .ne 7, 47), (43, .iconst 1, 0), (44, .goto 4, 48)]), (70, [(47, .iconst 0, 0), (48, .iconst 0, 0), (49, .invokevirtual 270, 0), (52, .ifCond .eq 211, 263), (55, .aload_n 0, 0), (56, .invokevirtual 277, 0), (59, .goto 204, 263), (62, .iload_n 1, 0), (63, .bipush 9, 0), (65, .if_icmp .ne 32, 97), (68, .aload_n 0, 0), (69, .aload_n 0, 0)]), (97, [(70, .getfield 260, 0), (73, .bipush 8, 0), (75, .if_icmp .ne 7, 82), (78, .iconst 1, 0), (79, .goto 4, 83), (82, .iconst 0, 0), (83, .iconst 0, 0), (84, .invokevirtual 270, 0), (87, .ifCond .eq 176, 263), (90, .aload_n 0, 0), (91, .invokevirtual 280, 0), (94, .goto 169, 263)]), (119, [(97, .iload_n 1, 0), (98, .iconst 2, 0), (99, .if_icmp .ne 30, 129), (102, .aload_n 0, 0), (103, .iconst 0, 0), (104, .aload_n 0, 0), (105, .getfield 267, 0), (108, .ifCond .le 7, 115), (111, .iconst 1, 0), (112, .goto 4, 116), (115, .iconst 0, 0), (116, .invokevirtual 270, 0)]), (142, [(119, .ifCond .eq 144, 263), (122, .aload_n 0, 0), (123, .invokevirtual 283, 0), (126, .goto 137, 263), (129, .iload_n 1, 0), (130, .bipush 10, 0), (132, .if_icmp .ne 38, 170), (135, .aload_n 0, 0), (136, .iconst 0, 0), (137, .aload_n 0, 0), (138, .getfield 286, 0), (141, .iconst (-1), 0)]), (167, [(142, .if_icmp .eq 7, 149), (145, .iconst 1, 0), (146, .goto 4, 150), (149, .iconst 0, 0), (150, .invokevirtual 270, 0), (153, .ifCond .eq 110, 263), (156, .aload_n 0, 0), (157, .aload_n 0, 0), (158, .iconst 0, 0), (159, .bipush 9, 0), (161, .invokevirtual 263, 0), (164, .putfield 286, 0)]), (190, [(167, .goto 96, 263), (170, .iload_n 1, 0), (171, .bipush 11, 0), (173, .if_icmp .ne 41, 214), (176, .aload_n 0, 0), (177, .iconst 0, 0), (178, .aload_n 0, 0), (179, .getfield 289, 0), (182, .iconst (-1), 0), (183, .if_icmp .eq 7, 190), (186, .iconst 1, 0), (187, .goto 4, 191)]), (214, [(190, .iconst 0, 0), (191, .invokevirtual 270, 0), (194, .ifCond .eq 69, 263), (197, .aload_n 0, 0), (198, .aload_n 0, 0), (199, .getfield 201, 0), (202, .putfield 289, 0), (205, .aload_n 0, 0), (206, .iconst 0, 0), (207, .iconst 4, 0), (208, .invokevirtual 292, 0), (211, .goto 52, 263)]), (235, [(214, .iload_n 1, 0), (215, .bipush 12, 0), (217, .if_icmp .ne 41, 258), (220, .aload_n 0, 0), (221, .iconst 0, 0), (222, .aload_n 0, 0), (223, .getfield 296, 0), (226, .iconst (-1), 0), (227, .if_icmp .eq 7, 234), (230, .iconst 1, 0), (231, .goto 4, 235), (234, .iconst 0, 0)]), (259, [(235, .invokevirtual 270, 0), (238, .ifCond .eq 25, 263), (241, .aload_n 0, 0), (242, .aload_n 0, 0), (243, .getfield 201, 0), (246, .putfield 296, 0), (249, .aload_n 0, 0), (250, .iconst 1, 0), (251, .iconst 5, 0), (252, .invokevirtual 292, 0), (255, .goto 8, 263), (258, .aload_n 0, 0)]), (1000000, [(259, .iconst 1, 0), (260, .invokevirtual 192, 0), (263, .aload_n 0, 0), (264, .aload_n 0, 0), (265, .bipush 59, 0), (267, .invokevirtual 229, 0), (270, .invokevirtual 299, 0), (273, .return_, 0)])]
theorem ik_X12_line : (i_X12_line).all (fun q => q.2.all (pm_ckI cX12_line)) = true := by decide +kernel
def i_X12_town : List (Nat × List (Nat × Instr × Nat)) := [(22, [(0, .aload_n 0, 0), (1, .iconst 0, 0), (2, .putfield 126, 0), (5, .aload_n 0, 0), (6, .iload_n 1, 0), (7, .ifCond .lt 15, 22), (10, .iload_n 1, 0), (11, .aload_n 0, 0), (12, .getfield 129, 0), (15, .if_icmp .gt 7, 22), (18, .iconst 1, 0), (19, .goto 4, 23)]), (42, [(22, .iconst 0, 0), (23, .iconst 1, 0), (24, .invokevirtual 302, 0), (27, .ifCond .ne 5, 32), (30, .iconst 0, 0), (31, .ireturn, 0), (32, .aload_n 0, 0), (33, .iconst 0, 0), (34, .putfield 129, 0), (37, .aload_n 0, 0), (38, .iconst (-1), 0), (39, .putfield 44, 0)]), (62, [(42, .aload_n 0, 0), (43, .iconst 0, 0), (44, .putfield 182, 0), (47, .aload_n 0, 0), (48, .iload_n 1, 0), (49, .putfield 136, 0), (52, .aload_n 0, 0), (53, .iconst 0, 0), (54, .putfield 139, 0), (57, .aload_n 0, 0), (58, .iconst 5, 0), (59, .putfield 195, 0)]), (82, [(62, .aload_n 0, 0), (63, .iconst 4, 0), (64, .putfield 198, 0), (67, .aload_n 0, 0), (68, .iconst 0, 0), (69, .putfield 257, 0), (72, .aload_n 0, 0), (73, .iconst 0, 0), (74, .putfield 260, 0), (77, .aload_n 0, 0), (78, .iconst 0, 0), (79, .putfield 267, 0)]), (100, [(82, .aload_n 0, 0), (83, .iconst (-1), 0), (84, .putfield 286, 0), (87, .aload_n 0, 0), (88, .iconst (-1), 0), (89, .putfield 289, 0), (92, .aload_n 0, 0), (93, .iconst (-1), 0), (94, .putfield 296, 0), (97, .iconst 0, 0), (98, .istore_n 2, 0), (99, .iload_n 2, 0)]), (123, [(100, .bipush 70, 0), (102, .if_icmp .ge 16, 118), (105, .aload_n 0, 0), (106, .getfield 62, 0), (109, .iload_n 2, 0), (110, .iconst 0, 0), (111, .iastore, 0), (112, .iinc 2 1, 0), (115, .goto (-16), 99), (118, .aload_n 0, 0), (119, .iconst 0, 0), (120, .putfield 201, 0)]), (145, [(123, .aload_n 0, 0), (124, .invokevirtual 189, 0), (127, .aload_n 0, 0), (128, .invokevirtual 216, 0), (131, .bipush 6, 0), (133, .if_icmp .ne 39, 172), (136, .aload_n 0, 0), (137, .invokevirtual 189, 0), (140, .aload_n 0, 0), (141, .aload_n 0, 0), (142, .iconst 2, 0), (143, .bipush 6, 0)]), (169, [(145, .invokevirtual 263, 0), (148, .putfield 195, 0), (151, .aload_n 0, 0), (152, .aload_n 0, 0), (153, .iconst 2, 0), (154, .bipush 6, 0), (156, .invokevirtual 263, 0), (159, .putfield 198, 0), (162, .aload_n 0, 0), (163, .aload_n 0, 0), (164, .bipush 59, 0), (166, .invokevirtual 229, 0)]), (197, [(169, .invokevirtual 299, 0), (172, .aload_n 0, 0), (173, .invokevirtual 185, 0), (176, .ifCond .eq 17, 193), (179, .aload_n 0, 0), (180, .getfield 159, 0), (183, .ifCond .eq 10, 193), (186, .aload_n 0, 0), (187, .invokevirtual 306, 0), (190, .goto (-18), 172), (193, .aload_n 0, 0), (194, .invokevirtual 185, 0)]), (215, [(197, .ifCond .ne 18, 215), (200, .aload_n 0, 0), (201, .getfield 47, 0), (204, .iconst 0, 0), (205, .dup2, 0), (206, .iaload, 0), (207, .iconst 1, 0), (208, .iadd, 0), (209, .iastore, 0), (210, .aload_n 0, 0), (211, .getfield 182, 0), (214, .ireturn, 0)]), (239, [(215, .aload_n 0, 0), (216, .aload_n 0, 0), (217, .getfield 195, 0), (220, .putfield 7, 0), (223, .aload_n 0, 0), (224, .aload_n 0, 0), (225, .getfield 198, 0), (228, .putfield 13, 0), (231, .aload_n 0, 0), (232, .aload_n 0, 0), (233, .getfield 257, 0), (236, .putfield 309, 0)]), (261, [(239, .aload_n 0, 0), (240, .aload_n 0, 0), (241, .getfield 260, 0), (244, .putfield 312, 0), (247, .aload_n 0, 0), (248, .aload_n 0, 0), (249, .getfield 267, 0), (252, .putfield 315, 0), (255, .aload_n 0, 0), (256, .aload_n 0, 0), (257, .getfield 286, 0), (260, .iconst (-1), 0)]), (285, [(261, .if_icmp .ne 7, 268), (264, .iconst 3, 0), (265, .goto 7, 272), (268, .aload_n 0, 0), (269, .getfield 286, 0), (272, .putfield 16, 0), (275, .aload_n 0, 0), (276, .aload_n 0, 0), (277, .getfield 289, 0), (280, .putfield 19, 0), (283, .aload_n 0, 0), (284, .aload_n 0, 0)]), (309, [(285, .getfield 296, 0), (288, .putfield 22, 0), (291, .aload_n 0, 0), (292, .aload_n 0, 0), (293, .getfield 50, 0), (296, .aload_n 0, 0), (297, .getfield 25, 0), (300, .invokevirtual 318, 0), (303, .aload_n 0, 0), (304, .aload_n 0, 0), (305, .getfield 53, 0), (308, .aload_n 0, 0)]), (333, [(309, .getfield 29, 0), (312, .invokevirtual 318, 0), (315, .aload_n 0, 0), (316, .aload_n 0, 0), (317, .getfield 56, 0), (320, .aload_n 0, 0), (321, .getfield 32, 0), (324, .invokevirtual 318, 0), (327, .aload_n 0, 0), (328, .aload_n 0, 0), (329, .getfield 59, 0), (332, .aload_n 0, 0)]), (356, [(333, .getfield 35, 0), (336, .invokevirtual 318, 0), (339, .aload_n 0, 0), (340, .aload_n 0, 0), (341, .getfield 65, 0), (344, .aload_n 0, 0), (345, .getfield 38, 0), (348, .invokevirtual 318, 0), (351, .iconst 0, 0), (352, .istore_n 2, 0), (353, .iload_n 2, 0), (354, .bipush 70, 0)]), (378, [(356, .if_icmp .ge 21, 377), (359, .aload_n 0, 0), (360, .getfield 75, 0), (363, .iload_n 2, 0), (364, .aload_n 0, 0), (365, .getfield 62, 0), (368, .iload_n 2, 0), (369, .iaload, 0), (370, .iastore, 0), (371, .iinc 2 1, 0), (374, .goto (-21), 353), (377, .aload_n 0, 0)]), (1000000, [(378, .iconst 0, 0), (379, .putfield 322, 0), (382, .aload_n 0, 0), (383, .iconst 0, 0), (384, .putfield 325, 0), (387, .aload_n 0, 0), (388, .iconst 0, 0), (389, .putfield 328, 0), (392, .iconst 0, 0), (393, .ireturn, 0)])]
theorem ik_X12_town : (i_X12_town).all (fun q => q.2.all (pm_ckI cX12_town)) = true := by decide +kernel
def i_X12_fault : List (Nat × List (Nat × Instr × Nat)) := [(1000000, [(0, .aload_n 0, 0), (1, .iconst 0, 0), (2, .putfield 126, 0), (5, .aload_n 0, 0), (6, .getfield 44, 0), (9, .ireturn, 0)])]
theorem ik_X12_fault : (i_X12_fault).all (fun q => q.2.all (pm_ckI cX12_fault)) = true := by decide +kernel
def i_X12_keeps : List (Nat × List (Nat × Instr × Nat)) := [(24, [(0, .aload_n 0, 0), (1, .getfield 322, 0), (4, .bipush 40, 0), (6, .if_icmp .ne 44, 50), (9, .bipush 70, 0), (11, .istore_n 1, 0), (12, .iload_n 1, 0), (13, .sipush 2800, 0), (16, .if_icmp .ge 24, 40), (19, .aload_n 0, 0), (20, .getfield 78, 0), (23, .iload_n 1, 0)]), (45, [(24, .bipush 70, 0), (26, .isub, 0), (27, .aload_n 0, 0), (28, .getfield 78, 0), (31, .iload_n 1, 0), (32, .iaload, 0), (33, .iastore, 0), (34, .iinc 1 1, 0), (37, .goto (-25), 12), (40, .aload_n 0, 0), (41, .dup, 0), (42, .getfield 322, 0)]), (65, [(45, .iconst 1, 0), (46, .isub, 0), (47, .putfield 322, 0), (50, .iconst 0, 0), (51, .istore_n 1, 0), (52, .iload_n 1, 0), (53, .bipush 70, 0), (55, .if_icmp .ge 29, 84), (58, .aload_n 0, 0), (59, .getfield 78, 0), (62, .bipush 70, 0), (64, .aload_n 0, 0)]), (85, [(65, .getfield 322, 0), (68, .imul, 0), (69, .iload_n 1, 0), (70, .iadd, 0), (71, .aload_n 0, 0), (72, .getfield 75, 0), (75, .iload_n 1, 0), (76, .iaload, 0), (77, .iastore, 0), (78, .iinc 1 1, 0), (81, .goto (-29), 52), (84, .aload_n 0, 0)]), (1000000, [(85, .dup, 0), (86, .getfield 322, 0), (89, .iconst 1, 0), (90, .iadd, 0), (91, .putfield 322, 0), (94, .return_, 0)])]
theorem ik_X12_keeps : (i_X12_keeps).all (fun q => q.2.all (pm_ckI cX12_keeps)) = true := by decide +kernel
def i_X12_refuses : List (Nat × List (Nat × Instr × Nat)) := [(1000000, [(0, .aload_n 0, 0), (1, .getfield 47, 0), (4, .iload_n 1, 0), (5, .dup2, 0), (6, .iaload, 0), (7, .iconst 1, 0), (8, .iadd, 0), (9, .iastore, 0), (10, .iconst (-1), 0), (11, .ireturn, 0)])]
theorem ik_X12_refuses : (i_X12_refuses).all (fun q => q.2.all (pm_ckI cX12_refuses)) = true := by decide +kernel
def i_X12_undo : List (Nat × List (Nat × Instr × Nat)) := [(20, [(0, .aload_n 0, 0), (1, .iconst 0, 0), (2, .putfield 126, 0), (5, .aload_n 0, 0), (6, .getfield 322, 0), (9, .ifCond .ne 5, 14), (12, .iconst (-1), 0), (13, .ireturn, 0), (14, .aload_n 0, 0), (15, .dup, 0), (16, .getfield 322, 0), (19, .iconst 1, 0)]), (41, [(20, .isub, 0), (21, .putfield 322, 0), (24, .iconst 0, 0), (25, .istore_n 1, 0), (26, .iload_n 1, 0), (27, .bipush 70, 0), (29, .if_icmp .ge 29, 58), (32, .aload_n 0, 0), (33, .getfield 75, 0), (36, .iload_n 1, 0), (37, .aload_n 0, 0), (38, .getfield 78, 0)]), (62, [(41, .bipush 70, 0), (43, .aload_n 0, 0), (44, .getfield 322, 0), (47, .imul, 0), (48, .iload_n 1, 0), (49, .iadd, 0), (50, .iaload, 0), (51, .iastore, 0), (52, .iinc 1 1, 0), (55, .goto (-29), 26), (58, .aload_n 0, 0), (59, .getfield 322, 0)]), (1000000, [(62, .ireturn, 0)])]
theorem ik_X12_undo : (i_X12_undo).all (fun q => q.2.all (pm_ckI cX12_undo)) = true := by decide +kernel
def i_X12_tries : List (Nat × List (Nat × Instr × Nat)) := [(20, [(0, .iconst 0, 0), (1, .istore_n 1, 0), (2, .iload_n 1, 0), (3, .bipush 70, 0), (5, .if_icmp .ge 24, 29), (8, .aload_n 0, 0), (9, .getfield 75, 0), (12, .bipush 70, 0), (14, .iload_n 1, 0), (15, .iadd, 0), (16, .aload_n 0, 0), (17, .getfield 75, 0)]), (1000000, [(20, .iload_n 1, 0), (21, .iaload, 0), (22, .iastore, 0), (23, .iinc 1 1, 0), (26, .goto (-24), 2), (29, .return_, 0)])]
theorem ik_X12_tries : (i_X12_tries).all (fun q => q.2.all (pm_ckI cX12_tries)) = true := by decide +kernel
def i_X12_works : List (Nat × List (Nat × Instr × Nat)) := [(62, [(0, .iload_n 0, 0), (1, .tableswitch 105 4 10 #[43, 57, 71, 82, 93, 97, 101], 0), (44, .iload_n 1, 0), (45, .ifCond .eq 11, 56), (48, .iload_n 2, 0), (49, .ifCond .eq 7, 56), (52, .iconst 1, 0), (53, .goto 4, 57), (56, .iconst 0, 0), (57, .ireturn, 0), (58, .iload_n 1, 0), (59, .ifCond .ne 7, 66)]), (82, [(62, .iload_n 2, 0), (63, .ifCond .eq 7, 70), (66, .iconst 1, 0), (67, .goto 4, 71), (70, .iconst 0, 0), (71, .ireturn, 0), (72, .iload_n 1, 0), (73, .iload_n 2, 0), (74, .if_icmp .ge 7, 81), (77, .iconst 1, 0), (78, .goto 4, 82), (81, .iconst 0, 0)]), (98, [(82, .ireturn, 0), (83, .iload_n 1, 0), (84, .iload_n 2, 0), (85, .if_icmp .ne 7, 92), (88, .iconst 1, 0), (89, .goto 4, 93), (92, .iconst 0, 0), (93, .ireturn, 0), (94, .iload_n 1, 0), (95, .iload_n 2, 0), (96, .iadd, 0), (97, .ireturn, 0)]), (114, [(98, .iload_n 1, 0), (99, .iload_n 2, 0), (100, .isub, 0), (101, .ireturn, 0), (102, .iload_n 1, 0), (103, .iload_n 2, 0), (104, .imul, 0), (105, .ireturn, 0), (106, .iload_n 2, 0), (107, .ifCond .ne 7, 114), (110, .iconst 0, 0), (111, .goto 6, 117)]), (1000000, [(114, .iload_n 1, 0), (115, .iload_n 2, 0), (116, .idiv, 0), (117, .ireturn, 0)])]
theorem ik_X12_works : (i_X12_works).all (fun q => q.2.all (pm_ckI cX12_works)) = true := by decide +kernel
def i_X12_reckons : List (Nat × List (Nat × Instr × Nat)) := [(18, [(0, .iconst 0, 0), (1, .istore_n 2, 0), (2, .iload_n 1, 0), (3, .istore_n 3, 0), (4, .aload_n 0, 0), (5, .getfield 38, 0), (8, .iload_n 3, 0), (9, .iaload, 0), (10, .ifCond .eq 133, 143), (13, .aload_n 0, 0), (14, .getfield 38, 0), (17, .iload_n 3, 0)]), (41, [(18, .iaload, 0), (19, .istore 4, 0), (21, .iinc 3 1, 0), (24, .iload 4, 0), (26, .iconst 1, 0), (27, .if_icmp .eq 9, 36), (30, .iload 4, 0), (32, .iconst 2, 0), (33, .if_icmp .ne 44, 77), (36, .aload_n 0, 0), (37, .getfield 84, 0), (40, .iload_n 2, 0)]), (64, [(41, .iload 4, 0), (43, .iconst 1, 0), (44, .if_icmp .ne 12, 56), (47, .aload_n 0, 0), (48, .getfield 38, 0), (51, .iload_n 3, 0), (52, .iaload, 0), (53, .goto 14, 67), (56, .aload_n 0, 0), (57, .getfield 81, 0), (60, .aload_n 0, 0), (61, .getfield 38, 0)]), (87, [(64, .iload_n 3, 0), (65, .iaload, 0), (66, .iaload, 0), (67, .iastore, 0), (68, .iinc 3 1, 0), (71, .iinc 2 1, 0), (74, .goto 66, 140), (77, .iload 4, 0), (79, .iconst 3, 0), (80, .if_icmp .ne 30, 110), (83, .aload_n 0, 0), (84, .getfield 84, 0)]), (105, [(87, .iload_n 2, 0), (88, .iconst 1, 0), (89, .isub, 0), (90, .aload_n 0, 0), (91, .getfield 84, 0), (94, .iload_n 2, 0), (95, .iconst 1, 0), (96, .isub, 0), (97, .iaload, 0), (98, .ifCond .ne 7, 105), (101, .iconst 1, 0), (102, .goto 4, 106)]), (126, [(105, .iconst 0, 0), (106, .iastore, 0), (107, .goto 33, 140), (110, .iinc 2 (-1), 0), (113, .aload_n 0, 0), (114, .getfield 84, 0), (117, .iload_n 2, 0), (118, .iconst 1, 0), (119, .isub, 0), (120, .iload 4, 0), (122, .aload_n 0, 0), (123, .getfield 84, 0)]), (144, [(126, .iload_n 2, 0), (127, .iconst 1, 0), (128, .isub, 0), (129, .iaload, 0), (130, .aload_n 0, 0), (131, .getfield 84, 0), (134, .iload_n 2, 0), (135, .iaload, 0), (136, .invokestatic 332, 0), (139, .iastore, 0), (140, .goto (-136), 4), (143, .aload_n 0, 0)]), (1000000, [(144, .getfield 84, 0), (147, .iconst 0, 0), (148, .iaload, 0), (149, .ireturn, 0)])]
theorem ik_X12_reckons : (i_X12_reckons).all (fun q => q.2.all (pm_ckI cX12_reckons)) = true := by decide +kernel
def i_X12_lightAt : List (Nat × List (Nat × Instr × Nat)) := [(22, [(0, .aload_n 0, 0), (1, .getfield 315, 0), (4, .ifCond .ne 7, 11), (7, .iconst 5, 0), (8, .goto 14, 22), (11, .aload_n 0, 0), (12, .getfield 35, 0), (15, .iload_n 1, 0), (16, .aload_n 0, 0), (17, .getfield 315, 0), (20, .irem, 0), (21, .iaload, 0)]), (1000000, [(22, .ireturn, 0)])]
theorem ik_X12_lightAt : (i_X12_lightAt).all (fun q => q.2.all (pm_ckI cX12_lightAt)) = true := by decide +kernel
end
section
def i_X12_isDull : List (Nat × List (Nat × Instr × Nat)) := [(20, [(0, .aload_n 0, 0), (1, .getfield 87, 0), (4, .iconst (-1), 0), (5, .if_icmp .ne 30, 35), (8, .aload_n 0, 0), (9, .aload_n 0, 0), (10, .getfield 75, 0), (13, .iload_n 1, 0), (14, .iconst 0, 0), (15, .iadd, 0), (16, .iaload, 0), (17, .invokevirtual 336, 0)]), (44, [(20, .aload_n 0, 0), (21, .getfield 16, 0), (24, .if_icmp .ge 7, 31), (27, .iconst 1, 0), (28, .goto 20, 48), (31, .iconst 0, 0), (32, .goto 16, 48), (35, .aload_n 0, 0), (36, .getfield 87, 0), (39, .iconst 1, 0), (40, .if_icmp .ne 7, 47), (43, .iconst 1, 0)]), (1000000, [(44, .goto 4, 48), (47, .iconst 0, 0), (48, .ireturn, 0)])]
theorem ik_X12_isDull : (i_X12_isDull).all (fun q => q.2.all (pm_ckI cX12_isDull)) = true := by decide +kernel
def i_X12_atCell : List (Nat × List (Nat × Instr × Nat)) := [(20, [(0, .iconst 0, 0), (1, .istore_n 3, 0), (2, .iconst 0, 0), (3, .istore 4, 0), (5, .iload 4, 0), (7, .aload_n 0, 0), (8, .getfield 309, 0), (11, .if_icmp .ge 35, 46), (14, .iload_n 3, 0), (15, .aload_n 0, 0), (16, .getfield 75, 0), (19, .iload_n 1, 0)]), (38, [(20, .iconst 1, 0), (21, .iadd, 0), (22, .iload 4, 0), (24, .iadd, 0), (25, .iaload, 0), (26, .iload_n 2, 0), (27, .if_icmp .ne 10, 37), (30, .iconst 1, 0), (31, .iload 4, 0), (33, .ishl, 0), (34, .goto 4, 38), (37, .iconst 0, 0)]), (1000000, [(38, .ior, 0), (39, .istore_n 3, 0), (40, .iinc 4 1, 0), (43, .goto (-38), 5), (46, .iload_n 3, 0), (47, .ireturn, 0)])]
theorem ik_X12_atCell : (i_X12_atCell).all (fun q => q.2.all (pm_ckI cX12_atCell)) = true := by decide +kernel
def i_X12_withIt : List (Nat × List (Nat × Instr × Nat)) := [(18, [(0, .aload_n 0, 0), (1, .iload_n 1, 0), (2, .aload_n 0, 0), (3, .getfield 75, 0), (6, .iload_n 1, 0), (7, .iconst 1, 0), (8, .iadd, 0), (9, .iload_n 2, 0), (10, .iadd, 0), (11, .iaload, 0), (12, .invokevirtual 339, 0), (15, .invokestatic 342, 0)]), (1000000, [(18, .iconst 1, 0), (19, .isub, 0), (20, .ireturn, 0)])]
theorem ik_X12_withIt : (i_X12_withIt).all (fun q => q.2.all (pm_ckI cX12_withIt)) = true := by decide +kernel
def i_X12_stepOf : List (Nat × List (Nat × Instr × Nat)) := [(17, [(0, .aload_n 0, 0), (1, .getfield 29, 0), (4, .bipush 8, 0), (6, .iload_n 2, 0), (7, .imul, 0), (8, .aload_n 0, 0), (9, .getfield 75, 0), (12, .iload_n 1, 0), (13, .iconst 0, 0), (14, .iadd, 0), (15, .iaload, 0), (16, .aload_n 0, 0)]), (34, [(17, .getfield 75, 0), (20, .iload_n 1, 0), (21, .bipush 25, 0), (23, .iadd, 0), (24, .iload_n 2, 0), (25, .iadd, 0), (26, .iaload, 0), (27, .iadd, 0), (28, .aload_n 0, 0), (29, .getfield 25, 0), (32, .iload_n 2, 0), (33, .iaload, 0)]), (1000000, [(34, .irem, 0), (35, .iadd, 0), (36, .iaload, 0), (37, .ireturn, 0)])]
theorem ik_X12_stepOf : (i_X12_stepOf).all (fun q => q.2.all (pm_ckI cX12_stepOf)) = true := by decide +kernel
def i_X12_tells : List (Nat × List (Nat × Instr × Nat)) := [(18, [(0, .aload_n 0, 0), (1, .getfield 81, 0), (4, .iconst 0, 0), (5, .aload_n 0, 0), (6, .iload_n 1, 0), (7, .iload_n 2, 0), (8, .invokevirtual 345, 0), (11, .iastore, 0), (12, .aload_n 0, 0), (13, .getfield 81, 0), (16, .iconst 1, 0), (17, .aload_n 0, 0)]), (35, [(18, .getfield 75, 0), (21, .iload_n 1, 0), (22, .bipush 9, 0), (24, .iadd, 0), (25, .iload_n 2, 0), (26, .iadd, 0), (27, .iaload, 0), (28, .iastore, 0), (29, .aload_n 0, 0), (30, .getfield 81, 0), (33, .iconst 2, 0), (34, .aload_n 0, 0)]), (53, [(35, .aload_n 0, 0), (36, .getfield 75, 0), (39, .iload_n 1, 0), (40, .iconst 0, 0), (41, .iadd, 0), (42, .iaload, 0), (43, .invokevirtual 336, 0), (46, .iastore, 0), (47, .aload_n 0, 0), (48, .getfield 81, 0), (51, .iconst 3, 0), (52, .aload_n 0, 0)]), (71, [(53, .iload_n 1, 0), (54, .iload_n 2, 0), (55, .invokevirtual 348, 0), (58, .iastore, 0), (59, .aload_n 0, 0), (60, .getfield 81, 0), (63, .iconst 4, 0), (64, .aload_n 0, 0), (65, .getfield 75, 0), (68, .iload_n 1, 0), (69, .iconst 0, 0), (70, .iadd, 0)]), (88, [(71, .iaload, 0), (72, .iastore, 0), (73, .aload_n 0, 0), (74, .getfield 81, 0), (77, .iconst 5, 0), (78, .aload_n 0, 0), (79, .getfield 75, 0), (82, .iload_n 1, 0), (83, .bipush 17, 0), (85, .iadd, 0), (86, .iload_n 2, 0), (87, .iadd, 0)]), (1000000, [(88, .iaload, 0), (89, .iastore, 0), (90, .return_, 0)])]
theorem ik_X12_tells : (i_X12_tells).all (fun q => q.2.all (pm_ckI cX12_tells)) = true := by decide +kernel
def i_X12_hurtsBy : List (Nat × List (Nat × Instr × Nat)) := [(18, [(0, .aload_n 0, 0), (1, .getfield 22, 0), (4, .iconst (-1), 0), (5, .if_icmp .ne 5, 10), (8, .iconst 1, 0), (9, .ireturn, 0), (10, .aload_n 0, 0), (11, .iload_n 1, 0), (12, .iload_n 2, 0), (13, .invokevirtual 351, 0), (16, .aload_n 0, 0), (17, .aload_n 0, 0)]), (1000000, [(18, .getfield 22, 0), (21, .invokevirtual 354, 0), (24, .iconst 0, 0), (25, .bipush 9, 0), (27, .invokestatic 357, 0), (30, .ireturn, 0)])]
theorem ik_X12_hurtsBy : (i_X12_hurtsBy).all (fun q => q.2.all (pm_ckI cX12_hurtsBy)) = true := by decide +kernel
def i_X12_isGoing : List (Nat × List (Nat × Instr × Nat)) := [(19, [(0, .aload_n 0, 0), (1, .getfield 19, 0), (4, .iconst (-1), 0), (5, .if_icmp .ne 25, 30), (8, .aload_n 0, 0), (9, .getfield 75, 0), (12, .iload_n 1, 0), (13, .bipush 9, 0), (15, .iadd, 0), (16, .iload_n 2, 0), (17, .iadd, 0), (18, .iaload, 0)]), (38, [(19, .bipush 10, 0), (21, .if_icmp .ge 7, 28), (24, .iconst 1, 0), (25, .goto 4, 29), (28, .iconst 0, 0), (29, .ireturn, 0), (30, .aload_n 0, 0), (31, .iload_n 1, 0), (32, .iload_n 2, 0), (33, .invokevirtual 351, 0), (36, .aload_n 0, 0), (37, .aload_n 0, 0)]), (1000000, [(38, .getfield 19, 0), (41, .invokevirtual 354, 0), (44, .ifCond .le 7, 51), (47, .iconst 1, 0), (48, .goto 4, 52), (51, .iconst 0, 0), (52, .ireturn, 0)])]
theorem ik_X12_isGoing : (i_X12_isGoing).all (fun q => q.2.all (pm_ckI cX12_isGoing)) = true := by decide +kernel
def i_X12_beside : List (Nat × List (Nat × Instr × Nat)) := [(22, [(0, .iload_n 2, 0), (1, .iconst 1, 0), (2, .if_icmp .ne 22, 24), (5, .iload_n 1, 0), (6, .aload_n 0, 0), (7, .getfield 7, 0), (10, .if_icmp .lt 12, 22), (13, .iload_n 1, 0), (14, .aload_n 0, 0), (15, .getfield 7, 0), (18, .isub, 0), (19, .goto 4, 23)]), (38, [(22, .iconst (-1), 0), (23, .ireturn, 0), (24, .iload_n 2, 0), (25, .iconst 2, 0), (26, .if_icmp .ne 26, 52), (29, .iload_n 1, 0), (30, .aload_n 0, 0), (31, .getfield 7, 0), (34, .irem, 0), (35, .iconst 1, 0), (36, .iadd, 0), (37, .aload_n 0, 0)]), (58, [(38, .getfield 7, 0), (41, .if_icmp .ge 9, 50), (44, .iload_n 1, 0), (45, .iconst 1, 0), (46, .iadd, 0), (47, .goto 4, 51), (50, .iconst (-1), 0), (51, .ireturn, 0), (52, .iload_n 2, 0), (53, .iconst 3, 0), (54, .if_icmp .ne 29, 83), (57, .iload_n 1, 0)]), (78, [(58, .aload_n 0, 0), (59, .getfield 7, 0), (62, .idiv, 0), (63, .iconst 1, 0), (64, .iadd, 0), (65, .aload_n 0, 0), (66, .getfield 13, 0), (69, .if_icmp .ge 12, 81), (72, .iload_n 1, 0), (73, .aload_n 0, 0), (74, .getfield 7, 0), (77, .iadd, 0)]), (98, [(78, .goto 4, 82), (81, .iconst (-1), 0), (82, .ireturn, 0), (83, .iload_n 2, 0), (84, .iconst 4, 0), (85, .if_icmp .ne 22, 107), (88, .iload_n 1, 0), (89, .aload_n 0, 0), (90, .getfield 7, 0), (93, .irem, 0), (94, .ifCond .le 9, 103), (97, .iload_n 1, 0)]), (1000000, [(98, .iconst 1, 0), (99, .isub, 0), (100, .goto 8, 108), (103, .iconst (-1), 0), (104, .goto 4, 108), (107, .iload_n 1, 0), (108, .ireturn, 0)])]
theorem ik_X12_beside : (i_X12_beside).all (fun q => q.2.all (pm_ckI cX12_beside)) = true := by decide +kernel
def i_X12_figureGoes : List (Nat × List (Nat × Instr × Nat)) := [(19, [(0, .aload_n 0, 0), (1, .getfield 75, 0), (4, .iload_n 1, 0), (5, .bipush 17, 0), (7, .iadd, 0), (8, .iload_n 2, 0), (9, .iadd, 0), (10, .iaload, 0), (11, .ifCond .le 46, 57), (14, .aload_n 0, 0), (15, .iload_n 1, 0), (16, .invokevirtual 360, 0)]), (39, [(19, .ifCond .ne 38, 57), (22, .aload_n 0, 0), (23, .getfield 75, 0), (26, .iload_n 1, 0), (27, .bipush 9, 0), (29, .iadd, 0), (30, .iload_n 2, 0), (31, .iadd, 0), (32, .bipush 99, 0), (34, .aload_n 0, 0), (35, .getfield 75, 0), (38, .iload_n 1, 0)]), (56, [(39, .bipush 9, 0), (41, .iadd, 0), (42, .iload_n 2, 0), (43, .iadd, 0), (44, .iaload, 0), (45, .aload_n 0, 0), (46, .iload_n 1, 0), (47, .iload_n 2, 0), (48, .invokevirtual 363, 0), (51, .iadd, 0), (52, .invokestatic 366, 0), (55, .iastore, 0)]), (74, [(56, .return_, 0), (57, .aload_n 0, 0), (58, .iload_n 1, 0), (59, .iload_n 2, 0), (60, .invokevirtual 369, 0), (63, .ifCond .ne 4, 67), (66, .return_, 0), (67, .aload_n 0, 0), (68, .aload_n 0, 0), (69, .getfield 75, 0), (72, .iload_n 1, 0), (73, .iconst 1, 0)]), (90, [(74, .iadd, 0), (75, .iload_n 2, 0), (76, .iadd, 0), (77, .iaload, 0), (78, .aload_n 0, 0), (79, .iload_n 1, 0), (80, .iload_n 2, 0), (81, .invokevirtual 345, 0), (84, .invokevirtual 373, 0), (87, .istore_n 3, 0), (88, .iload_n 3, 0), (89, .iconst (-1), 0)]), (111, [(90, .if_icmp .eq 28, 118), (93, .aload_n 0, 0), (94, .getfield 75, 0), (97, .iload_n 1, 0), (98, .bipush 33, 0), (100, .iadd, 0), (101, .iload_n 3, 0), (102, .iadd, 0), (103, .iaload, 0), (104, .ifCond .ne 14, 118), (107, .aload_n 0, 0), (108, .getfield 75, 0)]), (1000000, [(111, .iload_n 1, 0), (112, .iconst 1, 0), (113, .iadd, 0), (114, .iload_n 2, 0), (115, .iadd, 0), (116, .iload_n 3, 0), (117, .iastore, 0), (118, .return_, 0)])]
theorem ik_X12_figureGoes : (i_X12_figureGoes).all (fun q => q.2.all (pm_ckI cX12_figureGoes)) = true := by decide +kernel
def i_X12_hourGoes : List (Nat × List (Nat × Instr × Nat)) := [(22, [(0, .iconst 0, 0), (1, .istore_n 2, 0), (2, .iload_n 2, 0), (3, .aload_n 0, 0), (4, .getfield 309, 0), (7, .if_icmp .ge 15, 22), (10, .aload_n 0, 0), (11, .iload_n 1, 0), (12, .iload_n 2, 0), (13, .invokevirtual 376, 0), (16, .iinc 2 1, 0), (19, .goto (-17), 2)]), (41, [(22, .iconst 0, 0), (23, .istore_n 2, 0), (24, .iload_n 2, 0), (25, .aload_n 0, 0), (26, .getfield 309, 0), (29, .if_icmp .ge 42, 71), (32, .aload_n 0, 0), (33, .getfield 75, 0), (36, .iload_n 1, 0), (37, .bipush 17, 0), (39, .iadd, 0), (40, .iload_n 2, 0)]), (58, [(41, .iadd, 0), (42, .dup2, 0), (43, .iaload, 0), (44, .aload_n 0, 0), (45, .getfield 75, 0), (48, .iload_n 1, 0), (49, .bipush 17, 0), (51, .iadd, 0), (52, .iload_n 2, 0), (53, .iadd, 0), (54, .iaload, 0), (55, .ifCond .le 7, 62)]), (78, [(58, .iconst 1, 0), (59, .goto 4, 63), (62, .iconst 0, 0), (63, .isub, 0), (64, .iastore, 0), (65, .iinc 2 1, 0), (68, .goto (-44), 24), (71, .aload_n 0, 0), (72, .getfield 75, 0), (75, .iload_n 1, 0), (76, .iconst 0, 0), (77, .iadd, 0)]), (1000000, [(78, .dup2, 0), (79, .iaload, 0), (80, .iconst 1, 0), (81, .iadd, 0), (82, .iastore, 0), (83, .return_, 0)])]
theorem ik_X12_hourGoes : (i_X12_hourGoes).all (fun q => q.2.all (pm_ckI cX12_hourGoes)) = true := by decide +kernel
def i_X12_hoursGo : List (Nat × List (Nat × Instr × Nat)) := [(1000000, [(0, .iconst 0, 0), (1, .istore_n 2, 0), (2, .iload_n 2, 0), (3, .iload_n 1, 0), (4, .if_icmp .ge 15, 19), (7, .aload_n 0, 0), (8, .bipush 70, 0), (10, .invokevirtual 379, 0), (13, .iinc 2 1, 0), (16, .goto (-14), 2), (19, .return_, 0)])]
theorem ik_X12_hoursGo : (i_X12_hoursGo).all (fun q => q.2.all (pm_ckI cX12_hoursGo)) = true := by decide +kernel
def i_X12_sumOf : List (Nat × List (Nat × Instr × Nat)) := [(20, [(0, .iconst 0, 0), (1, .istore 4, 0), (3, .iconst 0, 0), (4, .istore 5, 0), (6, .iload 5, 0), (8, .iload_n 3, 0), (9, .if_icmp .ge 25, 34), (12, .iload 4, 0), (14, .aload_n 0, 0), (15, .getfield 75, 0), (18, .iload_n 1, 0), (19, .iload_n 2, 0)]), (1000000, [(20, .iadd, 0), (21, .iload 5, 0), (23, .iadd, 0), (24, .iaload, 0), (25, .iadd, 0), (26, .istore 4, 0), (28, .iinc 5 1, 0), (31, .goto (-25), 6), (34, .iload 4, 0), (36, .ireturn, 0)])]
theorem ik_X12_sumOf : (i_X12_sumOf).all (fun q => q.2.all (pm_ckI cX12_sumOf)) = true := by decide +kernel
def i_X12_heldOnes : List (Nat × List (Nat × Instr × Nat)) := [(19, [(0, .iconst 0, 0), (1, .istore_n 1, 0), (2, .iconst 0, 0), (3, .istore_n 2, 0), (4, .iload_n 2, 0), (5, .aload_n 0, 0), (6, .getfield 309, 0), (9, .if_icmp .ge 31, 40), (12, .iload_n 1, 0), (13, .aload_n 0, 0), (14, .getfield 75, 0), (17, .bipush 17, 0)]), (37, [(19, .iload_n 2, 0), (20, .iadd, 0), (21, .iaload, 0), (22, .ifCond .le 9, 31), (25, .iconst 1, 0), (26, .iload_n 2, 0), (27, .ishl, 0), (28, .goto 4, 32), (31, .iconst 0, 0), (32, .ior, 0), (33, .istore_n 1, 0), (34, .iinc 2 1, 0)]), (1000000, [(37, .goto (-33), 4), (40, .iload_n 1, 0), (41, .ireturn, 0)])]
theorem ik_X12_heldOnes : (i_X12_heldOnes).all (fun q => q.2.all (pm_ckI cX12_heldOnes)) = true := by decide +kernel
def i_X12_laysFar : List (Nat × List (Nat × Instr × Nat)) := [(23, [(0, .iconst 0, 0), (1, .istore_n 2, 0), (2, .iload_n 2, 0), (3, .bipush 36, 0), (5, .if_icmp .ge 18, 23), (8, .aload_n 0, 0), (9, .getfield 90, 0), (12, .iload_n 2, 0), (13, .sipush 9999, 0), (16, .iastore, 0), (17, .iinc 2 1, 0), (20, .goto (-18), 2)]), (40, [(23, .aload_n 0, 0), (24, .getfield 90, 0), (27, .iload_n 1, 0), (28, .iconst 0, 0), (29, .iastore, 0), (30, .iconst 0, 0), (31, .istore_n 2, 0), (32, .iconst 0, 0), (33, .istore_n 3, 0), (34, .aload_n 0, 0), (35, .getfield 75, 0), (38, .bipush 33, 0)]), (56, [(40, .iload_n 1, 0), (41, .iadd, 0), (42, .iaload, 0), (43, .ifCond .ne 12, 55), (46, .aload_n 0, 0), (47, .getfield 93, 0), (50, .iconst 0, 0), (51, .iload_n 1, 0), (52, .iastore, 0), (53, .iconst 1, 0), (54, .istore_n 3, 0), (55, .iload_n 2, 0)]), (77, [(56, .iload_n 3, 0), (57, .if_icmp .ge 108, 165), (60, .aload_n 0, 0), (61, .getfield 93, 0), (64, .iload_n 2, 0), (65, .iaload, 0), (66, .istore 4, 0), (68, .iinc 2 1, 0), (71, .iconst 1, 0), (72, .istore 5, 0), (74, .iload 5, 0), (76, .iconst 5, 0)]), (102, [(77, .if_icmp .ge 85, 162), (80, .aload_n 0, 0), (81, .iload 4, 0), (83, .iload 5, 0), (85, .invokevirtual 373, 0), (88, .istore 6, 0), (90, .iload 6, 0), (92, .iconst (-1), 0), (93, .if_icmp .eq 63, 156), (96, .aload_n 0, 0), (97, .getfield 90, 0), (100, .iload 6, 0)]), (126, [(102, .iaload, 0), (103, .sipush 9999, 0), (106, .if_icmp .ge 6, 112), (109, .goto 47, 156), (112, .aload_n 0, 0), (113, .getfield 90, 0), (116, .iload 6, 0), (118, .aload_n 0, 0), (119, .getfield 90, 0), (122, .iload 4, 0), (124, .iaload, 0), (125, .iconst 1, 0)]), (146, [(126, .iadd, 0), (127, .iastore, 0), (128, .aload_n 0, 0), (129, .getfield 75, 0), (132, .bipush 33, 0), (134, .iload 6, 0), (136, .iadd, 0), (137, .iaload, 0), (138, .iconst 1, 0), (139, .if_icmp .ne 6, 145), (142, .goto 14, 156), (145, .aload_n 0, 0)]), (1000000, [(146, .getfield 93, 0), (149, .iload_n 3, 0), (150, .iload 6, 0), (152, .iastore, 0), (153, .iinc 3 1, 0), (156, .iinc 5 1, 0), (159, .goto (-85), 74), (162, .goto (-107), 55), (165, .return_, 0)])]
theorem ik_X12_laysFar : (i_X12_laysFar).all (fun q => q.2.all (pm_ckI cX12_laysFar)) = true := by decide +kernel
def i_X12_parts : List (Nat × List (Nat × Instr × Nat)) := [(18, [(0, .iconst 0, 0), (1, .istore_n 1, 0), (2, .iconst 0, 0), (3, .istore_n 2, 0), (4, .iload_n 2, 0), (5, .aload_n 0, 0), (6, .getfield 7, 0), (9, .aload_n 0, 0), (10, .getfield 13, 0), (13, .imul, 0), (14, .if_icmp .ge 96, 110), (17, .aload_n 0, 0)]), (39, [(18, .getfield 75, 0), (21, .bipush 33, 0), (23, .iload_n 2, 0), (24, .iadd, 0), (25, .iaload, 0), (26, .iconst 1, 0), (27, .if_icmp .ne 6, 33), (30, .goto 74, 104), (33, .aload_n 0, 0), (34, .iload_n 2, 0), (35, .invokevirtual 382, 0), (38, .iconst 1, 0)]), (60, [(39, .istore_n 3, 0), (40, .iconst 0, 0), (41, .istore 4, 0), (43, .iload 4, 0), (45, .iload_n 2, 0), (46, .if_icmp .ge 46, 92), (49, .iload_n 3, 0), (50, .ifCond .eq 34, 84), (53, .aload_n 0, 0), (54, .getfield 90, 0), (57, .iload 4, 0), (59, .iaload, 0)]), (84, [(60, .sipush 9999, 0), (63, .if_icmp .eq 17, 80), (66, .aload_n 0, 0), (67, .getfield 75, 0), (70, .bipush 33, 0), (72, .iload 4, 0), (74, .iadd, 0), (75, .iaload, 0), (76, .iconst 1, 0), (77, .if_icmp .ne 7, 84), (80, .iconst 1, 0), (81, .goto 4, 85)]), (104, [(84, .iconst 0, 0), (85, .istore_n 3, 0), (86, .iinc 4 1, 0), (89, .goto (-46), 43), (92, .iload_n 1, 0), (93, .iload_n 3, 0), (94, .ifCond .eq 7, 101), (97, .iconst 1, 0), (98, .goto 4, 102), (101, .iconst 0, 0), (102, .iadd, 0), (103, .istore_n 1, 0)]), (1000000, [(104, .iinc 2 1, 0), (107, .goto (-103), 4), (110, .iload_n 1, 0), (111, .ireturn, 0)])]
theorem ik_X12_parts : (i_X12_parts).all (fun q => q.2.all (pm_ckI cX12_parts)) = true := by decide +kernel
def i_X12_count : List (Nat × List (Nat × Instr × Nat)) := [(21, [(0, .aload_n 0, 0), (1, .iconst 0, 0), (2, .putfield 126, 0), (5, .aload_n 0, 0), (6, .iload_n 1, 0), (7, .iconst 0, 0), (8, .bipush 17, 0), (10, .invokestatic 385, 0), (13, .iconst 1, 0), (14, .invokevirtual 302, 0), (17, .ifCond .ne 5, 22), (20, .iconst 0, 0)]), (111, [(21, .ireturn, 0), (22, .iload_n 1, 0), (23, .tableswitch 180 0 14 #[73, 78, 83, 88, 93, 100, 111, 125, 133, 143, 148, 160, 165, 170, 175], 0), (96, .aload_n 0, 0), (97, .getfield 309, 0), (100, .ireturn, 0), (101, .aload_n 0, 0), (102, .getfield 312, 0), (105, .ireturn, 0), (106, .aload_n 0, 0), (107, .getfield 7, 0), (110, .ireturn, 0)]), (129, [(111, .aload_n 0, 0), (112, .getfield 13, 0), (115, .ireturn, 0), (116, .aload_n 0, 0), (117, .getfield 75, 0), (120, .iconst 0, 0), (121, .iaload, 0), (122, .ireturn, 0), (123, .aload_n 0, 0), (124, .aload_n 0, 0), (125, .getfield 75, 0), (128, .iconst 0, 0)]), (149, [(129, .iaload, 0), (130, .invokevirtual 336, 0), (133, .ireturn, 0), (134, .aload_n 0, 0), (135, .iconst 0, 0), (136, .invokevirtual 360, 0), (139, .ifCond .eq 7, 146), (142, .iconst 1, 0), (143, .goto 4, 147), (146, .iconst 0, 0), (147, .ireturn, 0), (148, .aload_n 0, 0)]), (170, [(149, .getfield 75, 0), (152, .bipush 69, 0), (154, .iaload, 0), (155, .ireturn, 0), (156, .aload_n 0, 0), (157, .iconst 0, 0), (158, .bipush 33, 0), (160, .bipush 36, 0), (162, .invokevirtual 389, 0), (165, .ireturn, 0), (166, .aload_n 0, 0), (167, .invokevirtual 392, 0)]), (189, [(170, .ireturn, 0), (171, .aload_n 0, 0), (172, .iconst 0, 0), (173, .bipush 9, 0), (175, .aload_n 0, 0), (176, .getfield 309, 0), (179, .invokevirtual 389, 0), (182, .ireturn, 0), (183, .aload_n 0, 0), (184, .invokevirtual 395, 0), (187, .ireturn, 0), (188, .aload_n 0, 0)]), (210, [(189, .getfield 322, 0), (192, .ireturn, 0), (193, .aload_n 0, 0), (194, .getfield 325, 0), (197, .ireturn, 0), (198, .aload_n 0, 0), (199, .getfield 129, 0), (202, .ireturn, 0), (203, .aload_n 0, 0), (204, .getfield 47, 0), (207, .iload_n 1, 0), (208, .bipush 15, 0)]), (1000000, [(210, .isub, 0), (211, .iaload, 0), (212, .ireturn, 0)])]
theorem ik_X12_count : (i_X12_count).all (fun q => q.2.all (pm_ckI cX12_count)) = true := by decide +kernel
def i_X12_isFigure : List (Nat × List (Nat × Instr × Nat)) := [(22, [(0, .aload_n 0, 0), (1, .iload_n 1, 0), (2, .ifCond .lt 15, 17), (5, .iload_n 1, 0), (6, .aload_n 0, 0), (7, .getfield 309, 0), (10, .if_icmp .ge 7, 17), (13, .iconst 1, 0), (14, .goto 4, 18), (17, .iconst 0, 0), (18, .iconst 1, 0), (19, .invokevirtual 302, 0)]), (1000000, [(22, .ireturn, 0)])]
theorem ik_X12_isFigure : (i_X12_isFigure).all (fun q => q.2.all (pm_ckI cX12_isFigure)) = true := by decide +kernel
def i_X12_isCell : List (Nat × List (Nat × Instr × Nat)) := [(22, [(0, .aload_n 0, 0), (1, .iload_n 1, 0), (2, .ifCond .lt 20, 22), (5, .iload_n 1, 0), (6, .aload_n 0, 0), (7, .getfield 7, 0), (10, .aload_n 0, 0), (11, .getfield 13, 0), (14, .imul, 0), (15, .if_icmp .ge 7, 22), (18, .iconst 1, 0), (19, .goto 4, 23)]), (1000000, [(22, .iconst 0, 0), (23, .iconst 1, 0), (24, .invokevirtual 302, 0), (27, .ireturn, 0)])]
theorem ik_X12_isCell : (i_X12_isCell).all (fun q => q.2.all (pm_ckI cX12_isCell)) = true := by decide +kernel
def i_X12_isWhat : List (Nat × List (Nat × Instr × Nat)) := [(1000000, [(0, .aload_n 0, 0), (1, .iload_n 1, 0), (2, .iconst 0, 0), (3, .iload_n 2, 0), (4, .invokestatic 385, 0), (7, .iconst 1, 0), (8, .invokevirtual 302, 0), (11, .ireturn, 0)])]
theorem ik_X12_isWhat : (i_X12_isWhat).all (fun q => q.2.all (pm_ckI cX12_isWhat)) = true := by decide +kernel
def i_X12_isSoon : List (Nat × List (Nat × Instr × Nat)) := [(1000000, [(0, .aload_n 0, 0), (1, .iload_n 1, 0), (2, .iload_n 2, 0), (3, .bipush 100, 0), (5, .invokestatic 385, 0), (8, .iload_n 3, 0), (9, .invokevirtual 302, 0), (12, .ireturn, 0)])]
theorem ik_X12_isSoon : (i_X12_isSoon).all (fun q => q.2.all (pm_ckI cX12_isSoon)) = true := by decide +kernel
def i_X12_figure : List (Nat × List (Nat × Instr × Nat)) := [(23, [(0, .aload_n 0, 0), (1, .iconst 0, 0), (2, .putfield 126, 0), (5, .aload_n 0, 0), (6, .iload_n 1, 0), (7, .invokevirtual 398, 0), (10, .ifCond .eq 13, 23), (13, .aload_n 0, 0), (14, .iload_n 2, 0), (15, .bipush 6, 0), (17, .invokevirtual 401, 0), (20, .ifCond .ne 5, 25)]), (74, [(23, .iconst 0, 0), (24, .ireturn, 0), (25, .iload_n 2, 0), (26, .tableswitch 91 0 5 #[38, 47, 54, 64, 74, 81], 0), (64, .aload_n 0, 0), (65, .getfield 75, 0), (68, .iconst 1, 0), (69, .iload_n 1, 0), (70, .iadd, 0), (71, .iaload, 0), (72, .ireturn, 0), (73, .aload_n 0, 0)]), (91, [(74, .getfield 25, 0), (77, .iload_n 1, 0), (78, .iaload, 0), (79, .ireturn, 0), (80, .aload_n 0, 0), (81, .getfield 75, 0), (84, .bipush 9, 0), (86, .iload_n 1, 0), (87, .iadd, 0), (88, .iaload, 0), (89, .ireturn, 0), (90, .aload_n 0, 0)]), (108, [(91, .getfield 75, 0), (94, .bipush 17, 0), (96, .iload_n 1, 0), (97, .iadd, 0), (98, .iaload, 0), (99, .ireturn, 0), (100, .aload_n 0, 0), (101, .iconst 0, 0), (102, .iload_n 1, 0), (103, .invokevirtual 345, 0), (106, .ireturn, 0), (107, .aload_n 0, 0)]), (1000000, [(108, .getfield 75, 0), (111, .bipush 25, 0), (113, .iload_n 1, 0), (114, .iadd, 0), (115, .iaload, 0), (116, .ireturn, 0), (117, .aload_n 0, 0), (118, .iconst 0, 0), (119, .iload_n 1, 0), (120, .invokevirtual 348, 0), (123, .ireturn, 0)])]
theorem ik_X12_figure : (i_X12_figure).all (fun q => q.2.all (pm_ckI cX12_figure)) = true := by decide +kernel
def i_X12_seenFrom : List (Nat × List (Nat × Instr × Nat)) := [(16, [(0, .aload_n 0, 0), (1, .iconst 0, 0), (2, .iload_n 1, 0), (3, .invokevirtual 339, 0), (6, .istore_n 2, 0), (7, .iconst 1, 0), (8, .istore_n 3, 0), (9, .iload_n 3, 0), (10, .iconst 5, 0), (11, .if_icmp .ge 58, 69), (14, .aload_n 0, 0), (15, .iload_n 1, 0)]), (38, [(16, .iload_n 3, 0), (17, .invokevirtual 373, 0), (20, .istore 4, 0), (22, .iload 4, 0), (24, .iconst (-1), 0), (25, .if_icmp .eq 38, 63), (28, .aload_n 0, 0), (29, .getfield 75, 0), (32, .bipush 33, 0), (34, .iload 4, 0), (36, .iadd, 0), (37, .iaload, 0)]), (58, [(38, .ifCond .ne 25, 63), (41, .iload_n 2, 0), (42, .aload_n 0, 0), (43, .iconst 0, 0), (44, .iload 4, 0), (46, .invokevirtual 339, 0), (49, .ior, 0), (50, .istore_n 2, 0), (51, .aload_n 0, 0), (52, .iload 4, 0), (54, .iload_n 3, 0), (55, .invokevirtual 373, 0)]), (1000000, [(58, .istore 4, 0), (60, .goto (-38), 22), (63, .iinc 3 1, 0), (66, .goto (-57), 9), (69, .iload_n 2, 0), (70, .ireturn, 0)])]
theorem ik_X12_seenFrom : (i_X12_seenFrom).all (fun q => q.2.all (pm_ckI cX12_seenFrom)) = true := by decide +kernel
def i_X12_cell : List (Nat × List (Nat × Instr × Nat)) := [(22, [(0, .aload_n 0, 0), (1, .iconst 0, 0), (2, .putfield 126, 0), (5, .aload_n 0, 0), (6, .iload_n 1, 0), (7, .invokevirtual 404, 0), (10, .ifCond .eq 12, 22), (13, .aload_n 0, 0), (14, .iload_n 2, 0), (15, .iconst 3, 0), (16, .invokevirtual 401, 0), (19, .ifCond .ne 5, 24)]), (40, [(22, .iconst 0, 0), (23, .ireturn, 0), (24, .iconst 0, 0), (25, .istore_n 3, 0), (26, .iconst 0, 0), (27, .istore 4, 0), (29, .iload 4, 0), (31, .aload_n 0, 0), (32, .getfield 312, 0), (35, .if_icmp .ge 31, 66), (38, .iload_n 3, 0), (39, .aload_n 0, 0)]), (60, [(40, .getfield 32, 0), (43, .iload 4, 0), (45, .iaload, 0), (46, .iload_n 1, 0), (47, .if_icmp .ne 10, 57), (50, .iconst 1, 0), (51, .iload 4, 0), (53, .ishl, 0), (54, .goto 4, 58), (57, .iconst 0, 0), (58, .ior, 0), (59, .istore_n 3, 0)]), (83, [(60, .iinc 4 1, 0), (63, .goto (-34), 29), (66, .iload_n 2, 0), (67, .ifCond .ne 15, 82), (70, .aload_n 0, 0), (71, .getfield 75, 0), (74, .bipush 33, 0), (76, .iload_n 1, 0), (77, .iadd, 0), (78, .iaload, 0), (79, .goto 31, 110), (82, .iload_n 2, 0)]), (105, [(83, .iconst 1, 0), (84, .if_icmp .ne 12, 96), (87, .aload_n 0, 0), (88, .iconst 0, 0), (89, .iload_n 1, 0), (90, .invokevirtual 339, 0), (93, .goto 17, 110), (96, .iload_n 2, 0), (97, .iconst 2, 0), (98, .if_icmp .ne 7, 105), (101, .iload_n 3, 0), (102, .goto 8, 110)]), (1000000, [(105, .aload_n 0, 0), (106, .iload_n 1, 0), (107, .invokevirtual 407, 0), (110, .ireturn, 0)])]
theorem ik_X12_cell : (i_X12_cell).all (fun q => q.2.all (pm_ckI cX12_cell)) = true := by decide +kernel
def i_X12_hours : List (Nat × List (Nat × Instr × Nat)) := [(21, [(0, .aload_n 0, 0), (1, .iconst 0, 0), (2, .putfield 126, 0), (5, .iload_n 1, 0), (6, .iconst 1, 0), (7, .bipush 20, 0), (9, .invokestatic 385, 0), (12, .ifCond .eq 17, 29), (15, .aload_n 0, 0), (16, .getfield 75, 0), (19, .iconst 0, 0), (20, .iaload, 0)]), (41, [(21, .iload_n 1, 0), (22, .iadd, 0), (23, .sipush 9999, 0), (26, .if_icmp .le 9, 35), (29, .aload_n 0, 0), (30, .iconst 1, 0), (31, .invokevirtual 410, 0), (34, .ireturn, 0), (35, .aload_n 0, 0), (36, .invokevirtual 413, 0), (39, .iconst 0, 0), (40, .istore_n 2, 0)]), (63, [(41, .iload_n 2, 0), (42, .iload_n 1, 0), (43, .if_icmp .ge 14, 57), (46, .aload_n 0, 0), (47, .iconst 0, 0), (48, .invokevirtual 379, 0), (51, .iinc 2 1, 0), (54, .goto (-13), 41), (57, .aload_n 0, 0), (58, .getfield 75, 0), (61, .iconst 0, 0), (62, .iaload, 0)]), (1000000, [(63, .ireturn, 0)])]
theorem ik_X12_hours : (i_X12_hours).all (fun q => q.2.all (pm_ckI cX12_hours)) = true := by decide +kernel
def i_X12_stop : List (Nat × List (Nat × Instr × Nat)) := [(20, [(0, .aload_n 0, 0), (1, .iconst 0, 0), (2, .putfield 126, 0), (5, .aload_n 0, 0), (6, .iload_n 1, 0), (7, .invokevirtual 398, 0), (10, .ifCond .ne 5, 15), (13, .iconst 0, 0), (14, .ireturn, 0), (15, .aload_n 0, 0), (16, .iconst 0, 0), (17, .invokevirtual 360, 0)]), (43, [(20, .ifCond .ne 13, 33), (23, .iload_n 2, 0), (24, .iconst 1, 0), (25, .bipush 9, 0), (27, .invokestatic 385, 0), (30, .ifCond .ne 9, 39), (33, .aload_n 0, 0), (34, .iconst 1, 0), (35, .invokevirtual 410, 0), (38, .ireturn, 0), (39, .aload_n 0, 0), (40, .invokevirtual 413, 0)]), (63, [(43, .aload_n 0, 0), (44, .getfield 75, 0), (47, .bipush 17, 0), (49, .iload_n 1, 0), (50, .iadd, 0), (51, .iload_n 2, 0), (52, .iastore, 0), (53, .aload_n 0, 0), (54, .getfield 75, 0), (57, .bipush 69, 0), (59, .sipush 9999, 0), (62, .aload_n 0, 0)]), (1000000, [(63, .getfield 75, 0), (66, .bipush 69, 0), (68, .iaload, 0), (69, .iconst 1, 0), (70, .iadd, 0), (71, .invokestatic 366, 0), (74, .iastore, 0), (75, .aload_n 0, 0), (76, .getfield 75, 0), (79, .bipush 69, 0), (81, .iaload, 0), (82, .ireturn, 0)])]
theorem ik_X12_stop : (i_X12_stop).all (fun q => q.2.all (pm_ckI cX12_stop)) = true := by decide +kernel
def i_X12_lift : List (Nat × List (Nat × Instr × Nat)) := [(22, [(0, .aload_n 0, 0), (1, .iconst 0, 0), (2, .putfield 126, 0), (5, .aload_n 0, 0), (6, .iload_n 1, 0), (7, .invokevirtual 398, 0), (10, .ifCond .eq 11, 21), (13, .aload_n 0, 0), (14, .iload_n 2, 0), (15, .invokevirtual 404, 0), (18, .ifCond .ne 5, 23), (21, .iconst 0, 0)]), (40, [(22, .ireturn, 0), (23, .aload_n 0, 0), (24, .getfield 75, 0), (27, .iconst 1, 0), (28, .iload_n 1, 0), (29, .iadd, 0), (30, .iaload, 0), (31, .istore_n 3, 0), (32, .aload_n 0, 0), (33, .iconst 0, 0), (34, .invokevirtual 360, 0), (37, .ifCond .ne 21, 58)]), (59, [(40, .iload_n 3, 0), (41, .iload_n 2, 0), (42, .if_icmp .eq 16, 58), (45, .aload_n 0, 0), (46, .getfield 75, 0), (49, .bipush 33, 0), (51, .iload_n 2, 0), (52, .iadd, 0), (53, .iaload, 0), (54, .iconst 1, 0), (55, .if_icmp .ne 9, 64), (58, .aload_n 0, 0)]), (77, [(59, .iconst 1, 0), (60, .invokevirtual 410, 0), (63, .ireturn, 0), (64, .aload_n 0, 0), (65, .invokevirtual 413, 0), (68, .aload_n 0, 0), (69, .getfield 75, 0), (72, .iconst 1, 0), (73, .iload_n 1, 0), (74, .iadd, 0), (75, .iload_n 2, 0), (76, .iastore, 0)]), (97, [(77, .aload_n 0, 0), (78, .getfield 75, 0), (81, .bipush 17, 0), (83, .iload_n 1, 0), (84, .iadd, 0), (85, .iconst 0, 0), (86, .iastore, 0), (87, .aload_n 0, 0), (88, .getfield 75, 0), (91, .bipush 69, 0), (93, .sipush 9999, 0), (96, .aload_n 0, 0)]), (1000000, [(97, .getfield 75, 0), (100, .bipush 69, 0), (102, .iaload, 0), (103, .iconst 3, 0), (104, .iadd, 0), (105, .invokestatic 366, 0), (108, .iastore, 0), (109, .iload_n 3, 0), (110, .ireturn, 0)])]
theorem ik_X12_lift : (i_X12_lift).all (fun q => q.2.all (pm_ckI cX12_lift)) = true := by decide +kernel
def i_X12_brush : List (Nat × List (Nat × Instr × Nat)) := [(21, [(0, .aload_n 0, 0), (1, .iconst 0, 0), (2, .putfield 126, 0), (5, .aload_n 0, 0), (6, .iload_n 1, 0), (7, .invokevirtual 398, 0), (10, .ifCond .ne 5, 15), (13, .iconst 0, 0), (14, .ireturn, 0), (15, .aload_n 0, 0), (16, .getfield 75, 0), (19, .bipush 9, 0)]), (39, [(21, .iload_n 1, 0), (22, .iadd, 0), (23, .iaload, 0), (24, .istore_n 2, 0), (25, .iload_n 2, 0), (26, .ifCond .ne 9, 35), (29, .aload_n 0, 0), (30, .iconst 1, 0), (31, .invokevirtual 410, 0), (34, .ireturn, 0), (35, .aload_n 0, 0), (36, .invokevirtual 413, 0)]), (1000000, [(39, .aload_n 0, 0), (40, .getfield 75, 0), (43, .bipush 9, 0), (45, .iload_n 1, 0), (46, .iadd, 0), (47, .iconst 0, 0), (48, .iastore, 0), (49, .iload_n 2, 0), (50, .ireturn, 0)])]
theorem ik_X12_brush : (i_X12_brush).all (fun q => q.2.all (pm_ckI cX12_brush)) = true := by decide +kernel
def i_X12_wall : List (Nat × List (Nat × Instr × Nat)) := [(18, [(0, .aload_n 0, 0), (1, .iconst 0, 0), (2, .putfield 126, 0), (5, .aload_n 0, 0), (6, .iload_n 1, 0), (7, .invokevirtual 404, 0), (10, .ifCond .ne 5, 15), (13, .iconst 0, 0), (14, .ireturn, 0), (15, .aload_n 0, 0), (16, .iconst 0, 0), (17, .iload_n 1, 0)]), (42, [(18, .invokevirtual 339, 0), (21, .ifCond .eq 7, 28), (24, .iconst 1, 0), (25, .goto 4, 29), (28, .iconst 0, 0), (29, .istore_n 3, 0), (30, .iconst 0, 0), (31, .istore 4, 0), (33, .iload 4, 0), (35, .aload_n 0, 0), (36, .getfield 312, 0), (39, .if_icmp .ge 30, 69)]), (63, [(42, .iload_n 3, 0), (43, .ifCond .ne 14, 57), (46, .aload_n 0, 0), (47, .getfield 32, 0), (50, .iload 4, 0), (52, .iaload, 0), (53, .iload_n 1, 0), (54, .if_icmp .ne 7, 61), (57, .iconst 1, 0), (58, .goto 4, 62), (61, .iconst 0, 0), (62, .istore_n 3, 0)]), (86, [(63, .iinc 4 1, 0), (66, .goto (-33), 33), (69, .aload_n 0, 0), (70, .getfield 75, 0), (73, .bipush 33, 0), (75, .iload_n 1, 0), (76, .iadd, 0), (77, .iaload, 0), (78, .iconst 1, 0), (79, .if_icmp .ne 7, 86), (82, .iconst 1, 0), (83, .goto 4, 87)]), (108, [(86, .iconst 0, 0), (87, .iload_n 2, 0), (88, .if_icmp .eq 7, 95), (91, .iload_n 3, 0), (92, .ifCond .eq 17, 109), (95, .aload_n 0, 0), (96, .iconst 1, 0), (97, .invokevirtual 410, 0), (100, .ifCond .le 7, 107), (103, .iconst 1, 0), (104, .goto 4, 108), (107, .iconst 0, 0)]), (129, [(108, .ireturn, 0), (109, .aload_n 0, 0), (110, .invokevirtual 413, 0), (113, .aload_n 0, 0), (114, .getfield 75, 0), (117, .bipush 33, 0), (119, .iload_n 1, 0), (120, .iadd, 0), (121, .iload_n 2, 0), (122, .ifCond .eq 7, 129), (125, .iconst 1, 0), (126, .goto 4, 130)]), (1000000, [(129, .iconst 0, 0), (130, .iastore, 0), (131, .iconst 1, 0), (132, .ireturn, 0)])]
theorem ik_X12_wall : (i_X12_wall).all (fun q => q.2.all (pm_ckI cX12_wall)) = true := by decide +kernel
def i_X12_goesTo : List (Nat × List (Nat × Instr × Nat)) := [(1000000, [(0, .aload_n 0, 0), (1, .invokevirtual 416, 0), (4, .aload_n 0, 0), (5, .iload_n 1, 0), (6, .invokevirtual 419, 0), (9, .return_, 0)])]
theorem ik_X12_goesTo : (i_X12_goesTo).all (fun q => q.2.all (pm_ckI cX12_goesTo)) = true := by decide +kernel
def i_X12_then : List (Nat × List (Nat × Instr × Nat)) := [(22, [(0, .aload_n 0, 0), (1, .iconst 0, 0), (2, .putfield 126, 0), (5, .aload_n 0, 0), (6, .iload_n 1, 0), (7, .invokevirtual 398, 0), (10, .ifCond .eq 22, 32), (13, .aload_n 0, 0), (14, .iload_n 3, 0), (15, .iconst 2, 0), (16, .invokevirtual 401, 0), (19, .ifCond .eq 13, 32)]), (40, [(22, .aload_n 0, 0), (23, .iload_n 2, 0), (24, .iconst 0, 0), (25, .iconst 2, 0), (26, .invokevirtual 422, 0), (29, .ifCond .ne 5, 34), (32, .iconst 0, 0), (33, .ireturn, 0), (34, .aload_n 0, 0), (35, .iload_n 2, 0), (36, .invokevirtual 425, 0), (39, .aload_n 0, 0)]), (65, [(40, .getfield 75, 0), (43, .bipush 70, 0), (45, .iload_n 3, 0), (46, .ifCond .ne 7, 53), (49, .iconst 1, 0), (50, .goto 15, 65), (53, .iload_n 3, 0), (54, .iconst 1, 0), (55, .if_icmp .ne 8, 63), (58, .bipush 9, 0), (60, .goto 5, 65), (63, .bipush 17, 0)]), (1000000, [(65, .iadd, 0), (66, .iload_n 1, 0), (67, .iadd, 0), (68, .iaload, 0), (69, .ireturn, 0)])]
theorem ik_X12_then : (i_X12_then).all (fun q => q.2.all (pm_ckI cX12_then)) = true := by decide +kernel
def i_X12_comes : List (Nat × List (Nat × Instr × Nat)) := [(22, [(0, .aload_n 0, 0), (1, .iconst 0, 0), (2, .putfield 126, 0), (5, .aload_n 0, 0), (6, .iload_n 1, 0), (7, .invokevirtual 398, 0), (10, .ifCond .eq 11, 21), (13, .aload_n 0, 0), (14, .iload_n 2, 0), (15, .invokevirtual 404, 0), (18, .ifCond .ne 5, 23), (21, .iconst 0, 0)]), (42, [(22, .ireturn, 0), (23, .aload_n 0, 0), (24, .invokevirtual 416, 0), (27, .iconst 0, 0), (28, .istore_n 3, 0), (29, .iload_n 3, 0), (30, .bipush 100, 0), (32, .if_icmp .gt 30, 62), (35, .aload_n 0, 0), (36, .getfield 75, 0), (39, .bipush 71, 0), (41, .iload_n 1, 0)]), (63, [(42, .iadd, 0), (43, .iaload, 0), (44, .iload_n 2, 0), (45, .if_icmp .ne 5, 50), (48, .iload_n 3, 0), (49, .ireturn, 0), (50, .aload_n 0, 0), (51, .bipush 70, 0), (53, .invokevirtual 379, 0), (56, .iinc 3 1, 0), (59, .goto (-30), 29), (62, .iconst (-1), 0)]), (1000000, [(63, .ireturn, 0)])]
theorem ik_X12_comes : (i_X12_comes).all (fun q => q.2.all (pm_ckI cX12_comes)) = true := by decide +kernel
def i_X12_meet : List (Nat × List (Nat × Instr × Nat)) := [(22, [(0, .aload_n 0, 0), (1, .iconst 0, 0), (2, .putfield 126, 0), (5, .aload_n 0, 0), (6, .iload_n 1, 0), (7, .invokevirtual 398, 0), (10, .ifCond .eq 11, 21), (13, .aload_n 0, 0), (14, .iload_n 2, 0), (15, .invokevirtual 398, 0), (18, .ifCond .ne 5, 23), (21, .iconst 0, 0)]), (41, [(22, .ireturn, 0), (23, .aload_n 0, 0), (24, .invokevirtual 416, 0), (27, .iconst 0, 0), (28, .istore_n 3, 0), (29, .iload_n 3, 0), (30, .bipush 100, 0), (32, .if_icmp .gt 43, 75), (35, .iload_n 1, 0), (36, .iload_n 2, 0), (37, .if_icmp .eq 38, 75), (40, .aload_n 0, 0)]), (61, [(41, .getfield 75, 0), (44, .bipush 71, 0), (46, .iload_n 1, 0), (47, .iadd, 0), (48, .iaload, 0), (49, .aload_n 0, 0), (50, .getfield 75, 0), (53, .bipush 71, 0), (55, .iload_n 2, 0), (56, .iadd, 0), (57, .iaload, 0), (58, .if_icmp .ne 5, 63)]), (1000000, [(61, .iload_n 3, 0), (62, .ireturn, 0), (63, .aload_n 0, 0), (64, .bipush 70, 0), (66, .invokevirtual 379, 0), (69, .iinc 3 1, 0), (72, .goto (-43), 29), (75, .iconst (-1), 0), (76, .ireturn, 0)])]
theorem ik_X12_meet : (i_X12_meet).all (fun q => q.2.all (pm_ckI cX12_meet)) = true := by decide +kernel
def i_X12_mostOften : List (Nat × List (Nat × Instr × Nat)) := [(17, [(0, .iconst (-1), 0), (1, .istore_n 1, 0), (2, .iconst 0, 0), (3, .istore_n 2, 0), (4, .iload_n 2, 0), (5, .bipush 36, 0), (7, .if_icmp .ge 35, 42), (10, .aload_n 0, 0), (11, .getfield 96, 0), (14, .iload_n 2, 0), (15, .iaload, 0), (16, .iload_n 1, 0)]), (39, [(17, .iconst (-1), 0), (18, .if_icmp .ne 7, 25), (21, .iconst 0, 0), (22, .goto 9, 31), (25, .aload_n 0, 0), (26, .getfield 96, 0), (29, .iload_n 1, 0), (30, .iaload, 0), (31, .if_icmp .le 5, 36), (34, .iload_n 2, 0), (35, .istore_n 1, 0), (36, .iinc 2 1, 0)]), (1000000, [(39, .goto (-35), 4), (42, .iload_n 1, 0), (43, .ireturn, 0)])]
theorem ik_X12_mostOften : (i_X12_mostOften).all (fun q => q.2.all (pm_ckI cX12_mostOften)) = true := by decide +kernel
def i_X12_clears : List (Nat × List (Nat × Instr × Nat)) := [(21, [(0, .iconst 0, 0), (1, .istore_n 1, 0), (2, .iload_n 1, 0), (3, .bipush 36, 0), (5, .if_icmp .ge 16, 21), (8, .aload_n 0, 0), (9, .getfield 96, 0), (12, .iload_n 1, 0), (13, .iconst 0, 0), (14, .iastore, 0), (15, .iinc 1 1, 0), (18, .goto (-16), 2)]), (1000000, [(21, .return_, 0)])]
theorem ik_X12_clears : (i_X12_clears).all (fun q => q.2.all (pm_ckI cX12_clears)) = true := by decide +kernel
def i_X12_marks : List (Nat × List (Nat × Instr × Nat)) := [(21, [(0, .iconst 0, 0), (1, .istore_n 1, 0), (2, .iload_n 1, 0), (3, .aload_n 0, 0), (4, .getfield 309, 0), (7, .if_icmp .ge 27, 34), (10, .aload_n 0, 0), (11, .getfield 96, 0), (14, .aload_n 0, 0), (15, .getfield 75, 0), (18, .bipush 71, 0), (20, .iload_n 1, 0)]), (1000000, [(21, .iadd, 0), (22, .iaload, 0), (23, .dup2, 0), (24, .iaload, 0), (25, .iconst 1, 0), (26, .iadd, 0), (27, .iastore, 0), (28, .iinc 1 1, 0), (31, .goto (-29), 2), (34, .return_, 0)])]
theorem ik_X12_marks : (i_X12_marks).all (fun q => q.2.all (pm_ckI cX12_marks)) = true := by decide +kernel
def i_X12_crowd : List (Nat × List (Nat × Instr × Nat)) := [(18, [(0, .aload_n 0, 0), (1, .iconst 0, 0), (2, .putfield 126, 0), (5, .aload_n 0, 0), (6, .iload_n 2, 0), (7, .iconst 1, 0), (8, .invokevirtual 401, 0), (11, .ifCond .eq 13, 24), (14, .aload_n 0, 0), (15, .iload_n 1, 0), (16, .iconst 0, 0), (17, .iconst 2, 0)]), (40, [(18, .invokevirtual 422, 0), (21, .ifCond .ne 5, 26), (24, .iconst 0, 0), (25, .ireturn, 0), (26, .aload_n 0, 0), (27, .iload_n 1, 0), (28, .invokevirtual 425, 0), (31, .aload_n 0, 0), (32, .invokevirtual 428, 0), (35, .aload_n 0, 0), (36, .invokevirtual 431, 0), (39, .aload_n 0, 0)]), (62, [(40, .invokevirtual 434, 0), (43, .istore_n 3, 0), (44, .iload_n 2, 0), (45, .iconst 1, 0), (46, .if_icmp .ne 7, 53), (49, .iload_n 3, 0), (50, .goto 18, 68), (53, .iload_n 3, 0), (54, .iconst (-1), 0), (55, .if_icmp .ne 7, 62), (58, .iconst 0, 0), (59, .goto 9, 68)]), (1000000, [(62, .aload_n 0, 0), (63, .getfield 96, 0), (66, .iload_n 3, 0), (67, .iaload, 0), (68, .ireturn, 0)])]
theorem ik_X12_crowd : (i_X12_crowd).all (fun q => q.2.all (pm_ckI cX12_crowd)) = true := by decide +kernel
def i_X12_areAsNow : List (Nat × List (Nat × Instr × Nat)) := [(20, [(0, .iconst 1, 0), (1, .istore_n 1, 0), (2, .iconst 0, 0), (3, .istore_n 2, 0), (4, .iload_n 2, 0), (5, .aload_n 0, 0), (6, .getfield 309, 0), (9, .if_icmp .ge 39, 48), (12, .iload_n 1, 0), (13, .ifCond .eq 27, 40), (16, .aload_n 0, 0), (17, .getfield 75, 0)]), (37, [(20, .bipush 71, 0), (22, .iload_n 2, 0), (23, .iadd, 0), (24, .iaload, 0), (25, .aload_n 0, 0), (26, .getfield 75, 0), (29, .iconst 1, 0), (30, .iload_n 2, 0), (31, .iadd, 0), (32, .iaload, 0), (33, .if_icmp .ne 7, 40), (36, .iconst 1, 0)]), (1000000, [(37, .goto 4, 41), (40, .iconst 0, 0), (41, .istore_n 1, 0), (42, .iinc 2 1, 0), (45, .goto (-41), 4), (48, .iload_n 1, 0), (49, .ireturn, 0)])]
theorem ik_X12_areAsNow : (i_X12_areAsNow).all (fun q => q.2.all (pm_ckI cX12_areAsNow)) = true := by decide +kernel
def i_X12_round : List (Nat × List (Nat × Instr × Nat)) := [(21, [(0, .aload_n 0, 0), (1, .iconst 0, 0), (2, .putfield 126, 0), (5, .aload_n 0, 0), (6, .invokevirtual 416, 0), (9, .iconst 1, 0), (10, .istore_n 1, 0), (11, .iload_n 1, 0), (12, .sipush 200, 0), (15, .if_icmp .gt 24, 39), (18, .aload_n 0, 0), (19, .bipush 70, 0)]), (1000000, [(21, .invokevirtual 379, 0), (24, .aload_n 0, 0), (25, .invokevirtual 437, 0), (28, .ifCond .eq 5, 33), (31, .iload_n 1, 0), (32, .ireturn, 0), (33, .iinc 1 1, 0), (36, .goto (-25), 11), (39, .iconst (-1), 0), (40, .ireturn, 0)])]
theorem ik_X12_round : (i_X12_round).all (fun q => q.2.all (pm_ckI cX12_round)) = true := by decide +kernel
def i_X12_spread : List (Nat × List (Nat × Instr × Nat)) := [(20, [(0, .aload_n 0, 0), (1, .iconst 0, 0), (2, .putfield 126, 0), (5, .aload_n 0, 0), (6, .iload_n 1, 0), (7, .invokevirtual 398, 0), (10, .ifCond .eq 13, 23), (13, .aload_n 0, 0), (14, .iload_n 2, 0), (15, .iconst 0, 0), (16, .iconst 2, 0), (17, .invokevirtual 422, 0)]), (40, [(20, .ifCond .ne 5, 25), (23, .iconst 0, 0), (24, .ireturn, 0), (25, .aload_n 0, 0), (26, .invokevirtual 428, 0), (29, .aload_n 0, 0), (30, .invokevirtual 416, 0), (33, .iconst 0, 0), (34, .istore_n 3, 0), (35, .iload_n 3, 0), (36, .iload_n 2, 0), (37, .if_icmp .gt 30, 67)]), (58, [(40, .aload_n 0, 0), (41, .getfield 96, 0), (44, .aload_n 0, 0), (45, .getfield 75, 0), (48, .bipush 71, 0), (50, .iload_n 1, 0), (51, .iadd, 0), (52, .iaload, 0), (53, .iconst 1, 0), (54, .iastore, 0), (55, .aload_n 0, 0), (56, .bipush 70, 0)]), (81, [(58, .invokevirtual 379, 0), (61, .iinc 3 1, 0), (64, .goto (-29), 35), (67, .iconst 0, 0), (68, .istore_n 3, 0), (69, .iconst 0, 0), (70, .istore 4, 0), (72, .iload 4, 0), (74, .bipush 36, 0), (76, .if_icmp .ge 19, 95), (79, .iload_n 3, 0), (80, .aload_n 0, 0)]), (1000000, [(81, .getfield 96, 0), (84, .iload 4, 0), (86, .iaload, 0), (87, .iadd, 0), (88, .istore_n 3, 0), (89, .iinc 4 1, 0), (92, .goto (-20), 72), (95, .iload_n 3, 0), (96, .ireturn, 0)])]
theorem ik_X12_spread : (i_X12_spread).all (fun q => q.2.all (pm_ckI cX12_spread)) = true := by decide +kernel
def i_X12_later : List (Nat × List (Nat × Instr × Nat)) := [(20, [(0, .aload_n 0, 0), (1, .iconst 0, 0), (2, .putfield 126, 0), (5, .aload_n 0, 0), (6, .iload_n 2, 0), (7, .iconst 3, 0), (8, .invokevirtual 401, 0), (11, .ifCond .eq 21, 32), (14, .aload_n 0, 0), (15, .iload_n 1, 0), (16, .iload_n 2, 0), (17, .ifCond .ne 7, 24)]), (42, [(20, .iconst 1, 0), (21, .goto 4, 25), (24, .iconst 0, 0), (25, .iconst 2, 0), (26, .invokevirtual 422, 0), (29, .ifCond .ne 5, 34), (32, .iconst 0, 0), (33, .ireturn, 0), (34, .aload_n 0, 0), (35, .invokevirtual 428, 0), (38, .aload_n 0, 0), (39, .invokevirtual 416, 0)]), (59, [(42, .iconst 1, 0), (43, .aload_n 0, 0), (44, .getfield 309, 0), (47, .ishl, 0), (48, .iconst 1, 0), (49, .isub, 0), (50, .istore_n 3, 0), (51, .iload_n 3, 0), (52, .istore 4, 0), (54, .iconst 0, 0), (55, .istore 5, 0), (57, .iload 5, 0)]), (83, [(59, .iload_n 1, 0), (60, .if_icmp .gt 95, 155), (63, .iload 5, 0), (65, .ifCond .le 13, 78), (68, .aload_n 0, 0), (69, .bipush 70, 0), (71, .invokevirtual 379, 0), (74, .aload_n 0, 0), (75, .invokevirtual 431, 0), (78, .iconst 0, 0), (79, .istore 6, 0), (81, .iload 6, 0)]), (106, [(83, .aload_n 0, 0), (84, .getfield 309, 0), (87, .if_icmp .ge 62, 149), (90, .aload_n 0, 0), (91, .bipush 70, 0), (93, .iload 6, 0), (95, .invokevirtual 348, 0), (98, .ifCond .le 12, 110), (101, .iload_n 3, 0), (102, .iconst 1, 0), (103, .iload 6, 0), (105, .ishl, 0)]), (124, [(106, .iconst (-1), 0), (107, .ixor, 0), (108, .iand, 0), (109, .istore_n 3, 0), (110, .aload_n 0, 0), (111, .getfield 75, 0), (114, .bipush 71, 0), (116, .iload 6, 0), (118, .iadd, 0), (119, .iaload, 0), (120, .aload_n 0, 0), (121, .getfield 75, 0)]), (141, [(124, .iconst 1, 0), (125, .iload 6, 0), (127, .iadd, 0), (128, .iaload, 0), (129, .if_icmp .eq 14, 143), (132, .iload 4, 0), (134, .iconst 1, 0), (135, .iload 6, 0), (137, .ishl, 0), (138, .iconst (-1), 0), (139, .ixor, 0), (140, .iand, 0)]), (167, [(141, .istore 4, 0), (143, .iinc 6 1, 0), (146, .goto (-65), 81), (149, .iinc 5 1, 0), (152, .goto (-95), 57), (155, .iconst (-1), 0), (156, .istore 5, 0), (158, .iconst 0, 0), (159, .istore 6, 0), (161, .iload 6, 0), (163, .aload_n 0, 0), (164, .getfield 309, 0)]), (190, [(167, .if_icmp .ge 46, 213), (170, .aload_n 0, 0), (171, .getfield 75, 0), (174, .bipush 79, 0), (176, .iload 6, 0), (178, .iadd, 0), (179, .iaload, 0), (180, .iload 5, 0), (182, .iconst (-1), 0), (183, .if_icmp .ne 7, 190), (186, .iconst 0, 0), (187, .goto 13, 200)]), (214, [(190, .aload_n 0, 0), (191, .getfield 75, 0), (194, .bipush 79, 0), (196, .iload 5, 0), (198, .iadd, 0), (199, .iaload, 0), (200, .if_icmp .le 7, 207), (203, .iload 6, 0), (205, .istore 5, 0), (207, .iinc 6 1, 0), (210, .goto (-49), 161), (213, .iload_n 2, 0)]), (239, [(214, .ifCond .ne 10, 224), (217, .aload_n 0, 0), (218, .invokevirtual 434, 0), (221, .goto 24, 245), (224, .iload_n 2, 0), (225, .iconst 1, 0), (226, .if_icmp .ne 8, 234), (229, .iload 5, 0), (231, .goto 14, 245), (234, .iload_n 2, 0), (235, .iconst 2, 0), (236, .if_icmp .ne 7, 243)]), (1000000, [(239, .iload_n 3, 0), (240, .goto 5, 245), (243, .iload 4, 0), (245, .ireturn, 0)])]
theorem ik_X12_later : (i_X12_later).all (fun q => q.2.all (pm_ckI cX12_later)) = true := by decide +kernel
def i_X12_together : List (Nat × List (Nat × Instr × Nat)) := [(22, [(0, .aload_n 0, 0), (1, .iconst 0, 0), (2, .putfield 126, 0), (5, .aload_n 0, 0), (6, .iload_n 1, 0), (7, .invokevirtual 398, 0), (10, .ifCond .eq 21, 31), (13, .aload_n 0, 0), (14, .iload_n 2, 0), (15, .invokevirtual 398, 0), (18, .ifCond .eq 13, 31), (21, .aload_n 0, 0)]), (41, [(22, .iload_n 3, 0), (23, .iconst 1, 0), (24, .iconst 2, 0), (25, .invokevirtual 422, 0), (28, .ifCond .ne 5, 33), (31, .iconst 0, 0), (32, .ireturn, 0), (33, .iconst 0, 0), (34, .istore 4, 0), (36, .aload_n 0, 0), (37, .invokevirtual 416, 0), (40, .iconst 0, 0)]), (64, [(41, .istore 5, 0), (43, .iload 5, 0), (45, .iload_n 3, 0), (46, .if_icmp .ge 46, 92), (49, .aload_n 0, 0), (50, .bipush 70, 0), (52, .invokevirtual 379, 0), (55, .iload 4, 0), (57, .aload_n 0, 0), (58, .getfield 75, 0), (61, .bipush 71, 0), (63, .iload_n 1, 0)]), (83, [(64, .iadd, 0), (65, .iaload, 0), (66, .aload_n 0, 0), (67, .getfield 75, 0), (70, .bipush 71, 0), (72, .iload_n 2, 0), (73, .iadd, 0), (74, .iaload, 0), (75, .if_icmp .ne 7, 82), (78, .iconst 1, 0), (79, .goto 4, 83), (82, .iconst 0, 0)]), (1000000, [(83, .iadd, 0), (84, .istore 4, 0), (86, .iinc 5 1, 0), (89, .goto (-46), 43), (92, .iload 4, 0), (94, .ireturn, 0)])]
theorem ik_X12_together : (i_X12_together).all (fun q => q.2.all (pm_ckI cX12_together)) = true := by decide +kernel
def i_X12_quiet : List (Nat × List (Nat × Instr × Nat)) := [(20, [(0, .aload_n 0, 0), (1, .iconst 0, 0), (2, .putfield 126, 0), (5, .aload_n 0, 0), (6, .iload_n 1, 0), (7, .invokevirtual 404, 0), (10, .ifCond .eq 13, 23), (13, .aload_n 0, 0), (14, .iload_n 2, 0), (15, .iconst 1, 0), (16, .iconst 2, 0), (17, .invokevirtual 422, 0)]), (40, [(20, .ifCond .ne 5, 25), (23, .iconst 0, 0), (24, .ireturn, 0), (25, .iconst 0, 0), (26, .istore_n 3, 0), (27, .aload_n 0, 0), (28, .invokevirtual 416, 0), (31, .iconst 0, 0), (32, .istore 4, 0), (34, .iload 4, 0), (36, .iload_n 2, 0), (37, .if_icmp .ge 33, 70)]), (62, [(40, .aload_n 0, 0), (41, .bipush 70, 0), (43, .invokevirtual 379, 0), (46, .iload_n 3, 0), (47, .aload_n 0, 0), (48, .bipush 70, 0), (50, .iload_n 1, 0), (51, .invokevirtual 339, 0), (54, .ifCond .ne 7, 61), (57, .iconst 1, 0), (58, .goto 4, 62), (61, .iconst 0, 0)]), (1000000, [(62, .iadd, 0), (63, .istore_n 3, 0), (64, .iinc 4 1, 0), (67, .goto (-33), 34), (70, .iload_n 3, 0), (71, .ireturn, 0)])]
theorem ik_X12_quiet : (i_X12_quiet).all (fun q => q.2.all (pm_ckI cX12_quiet)) = true := by decide +kernel
def i_X12_gone : List (Nat × List (Nat × Instr × Nat)) := [(20, [(0, .aload_n 0, 0), (1, .iconst 0, 0), (2, .putfield 126, 0), (5, .aload_n 0, 0), (6, .iload_n 1, 0), (7, .invokevirtual 398, 0), (10, .ifCond .eq 13, 23), (13, .aload_n 0, 0), (14, .iload_n 2, 0), (15, .iconst 0, 0), (16, .iconst 2, 0), (17, .invokevirtual 422, 0)]), (40, [(20, .ifCond .ne 5, 25), (23, .iconst 0, 0), (24, .ireturn, 0), (25, .iconst 0, 0), (26, .istore_n 3, 0), (27, .aload_n 0, 0), (28, .invokevirtual 416, 0), (31, .iconst 0, 0), (32, .istore 4, 0), (34, .iload 4, 0), (36, .iload_n 2, 0), (37, .if_icmp .ge 48, 85)]), (59, [(40, .aload_n 0, 0), (41, .getfield 75, 0), (44, .bipush 71, 0), (46, .iload_n 1, 0), (47, .iadd, 0), (48, .iaload, 0), (49, .istore 5, 0), (51, .aload_n 0, 0), (52, .bipush 70, 0), (54, .invokevirtual 379, 0), (57, .iload_n 3, 0), (58, .aload_n 0, 0)]), (79, [(59, .getfield 75, 0), (62, .bipush 71, 0), (64, .iload_n 1, 0), (65, .iadd, 0), (66, .iaload, 0), (67, .iload 5, 0), (69, .if_icmp .eq 7, 76), (72, .iconst 1, 0), (73, .goto 4, 77), (76, .iconst 0, 0), (77, .iadd, 0), (78, .istore_n 3, 0)]), (1000000, [(79, .iinc 4 1, 0), (82, .goto (-48), 34), (85, .iload_n 3, 0), (86, .ireturn, 0)])]
theorem ik_X12_gone : (i_X12_gone).all (fun q => q.2.all (pm_ckI cX12_gone)) = true := by decide +kernel
def i_X12_way : List (Nat × List (Nat × Instr × Nat)) := [(22, [(0, .aload_n 0, 0), (1, .iconst 0, 0), (2, .putfield 126, 0), (5, .aload_n 0, 0), (6, .iload_n 1, 0), (7, .invokevirtual 404, 0), (10, .ifCond .eq 20, 30), (13, .aload_n 0, 0), (14, .iload_n 2, 0), (15, .invokevirtual 404, 0), (18, .ifCond .eq 12, 30), (21, .aload_n 0, 0)]), (42, [(22, .iload_n 3, 0), (23, .iconst 1, 0), (24, .invokevirtual 401, 0), (27, .ifCond .ne 5, 32), (30, .iconst 0, 0), (31, .ireturn, 0), (32, .aload_n 0, 0), (33, .iload_n 2, 0), (34, .invokevirtual 382, 0), (37, .iload_n 3, 0), (38, .ifCond .ne 26, 64), (41, .aload_n 0, 0)]), (64, [(42, .getfield 90, 0), (45, .iload_n 1, 0), (46, .iaload, 0), (47, .sipush 9999, 0), (50, .if_icmp .lt 7, 57), (53, .iconst (-1), 0), (54, .goto 9, 63), (57, .aload_n 0, 0), (58, .getfield 90, 0), (61, .iload_n 1, 0), (62, .iaload, 0), (63, .ireturn, 0)]), (85, [(64, .iconst (-1), 0), (65, .istore 4, 0), (67, .iconst 1, 0), (68, .istore 5, 0), (70, .iload 5, 0), (72, .iconst 5, 0), (73, .if_icmp .ge 100, 173), (76, .aload_n 0, 0), (77, .getfield 90, 0), (80, .iload_n 1, 0), (81, .iaload, 0), (82, .ifCond .le 91, 173)]), (108, [(85, .aload_n 0, 0), (86, .getfield 90, 0), (89, .iload_n 1, 0), (90, .iaload, 0), (91, .sipush 9999, 0), (94, .if_icmp .ge 79, 173), (97, .aload_n 0, 0), (98, .iload_n 1, 0), (99, .iload 5, 0), (101, .invokevirtual 373, 0), (104, .istore 6, 0), (106, .iload 6, 0)]), (130, [(108, .iconst (-1), 0), (109, .if_icmp .eq 58, 167), (112, .aload_n 0, 0), (113, .getfield 75, 0), (116, .bipush 33, 0), (118, .iload 6, 0), (120, .iadd, 0), (121, .iaload, 0), (122, .iconst 1, 0), (123, .if_icmp .eq 44, 167), (126, .aload_n 0, 0), (127, .getfield 90, 0)]), (150, [(130, .iload 6, 0), (132, .iaload, 0), (133, .aload_n 0, 0), (134, .getfield 90, 0), (137, .iload_n 1, 0), (138, .iaload, 0), (139, .iconst 1, 0), (140, .isub, 0), (141, .if_icmp .eq 6, 147), (144, .goto 23, 167), (147, .iload 4, 0), (149, .iconst (-1), 0)]), (1000000, [(150, .if_icmp .ne 8, 158), (153, .iload 6, 0), (155, .goto 10, 165), (158, .iload 4, 0), (160, .iload 6, 0), (162, .invokestatic 366, 0), (165, .istore 4, 0), (167, .iinc 5 1, 0), (170, .goto (-100), 70), (173, .iload 4, 0), (175, .ireturn, 0)])]
theorem ik_X12_way : (i_X12_way).all (fun q => q.2.all (pm_ckI cX12_way)) = true := by decide +kernel
def i_X12_toStop : List (Nat × List (Nat × Instr × Nat)) := [(22, [(0, .aload_n 0, 0), (1, .iconst 0, 0), (2, .putfield 126, 0), (5, .aload_n 0, 0), (6, .iload_n 1, 0), (7, .invokevirtual 398, 0), (10, .ifCond .eq 21, 31), (13, .aload_n 0, 0), (14, .iload_n 2, 0), (15, .invokevirtual 404, 0), (18, .ifCond .eq 13, 31), (21, .aload_n 0, 0)]), (43, [(22, .iload_n 3, 0), (23, .iconst 0, 0), (24, .iconst 2, 0), (25, .invokevirtual 422, 0), (28, .ifCond .ne 5, 33), (31, .iconst 0, 0), (32, .ireturn, 0), (33, .iconst 0, 0), (34, .istore 4, 0), (36, .iload 4, 0), (38, .bipush 10, 0), (40, .if_icmp .ge 45, 85)]), (63, [(43, .aload_n 0, 0), (44, .invokevirtual 416, 0), (47, .aload_n 0, 0), (48, .getfield 75, 0), (51, .bipush 87, 0), (53, .iload_n 1, 0), (54, .iadd, 0), (55, .iload 4, 0), (57, .iastore, 0), (58, .aload_n 0, 0), (59, .iload_n 3, 0), (60, .invokevirtual 419, 0)]), (85, [(63, .aload_n 0, 0), (64, .getfield 75, 0), (67, .bipush 71, 0), (69, .iload_n 1, 0), (70, .iadd, 0), (71, .iaload, 0), (72, .iload_n 2, 0), (73, .if_icmp .ne 6, 79), (76, .iload 4, 0), (78, .ireturn, 0), (79, .iinc 4 1, 0), (82, .goto (-46), 36)]), (1000000, [(85, .iconst (-1), 0), (86, .ireturn, 0)])]
theorem ik_X12_toStop : (i_X12_toStop).all (fun q => q.2.all (pm_ckI cX12_toStop)) = true := by decide +kernel
def i_X12_toThin : List (Nat × List (Nat × Instr × Nat)) := [(21, [(0, .aload_n 0, 0), (1, .iconst 0, 0), (2, .putfield 126, 0), (5, .aload_n 0, 0), (6, .iload_n 1, 0), (7, .iconst 0, 0), (8, .bipush 60, 0), (10, .invokestatic 385, 0), (13, .iconst 1, 0), (14, .invokevirtual 302, 0), (17, .ifCond .ne 5, 22), (20, .iconst 0, 0)]), (40, [(21, .ireturn, 0), (22, .iconst 0, 0), (23, .istore_n 2, 0), (24, .iload_n 2, 0), (25, .bipush 8, 0), (27, .if_icmp .ge 16, 43), (30, .aload_n 0, 0), (31, .getfield 99, 0), (34, .iload_n 2, 0), (35, .iconst 0, 0), (36, .iastore, 0), (37, .iinc 2 1, 0)]), (58, [(40, .goto (-16), 24), (43, .aload_n 0, 0), (44, .invokevirtual 416, 0), (47, .iconst 0, 0), (48, .istore_n 2, 0), (49, .iload_n 2, 0), (50, .iload_n 1, 0), (51, .if_icmp .gt 61, 112), (54, .iconst 0, 0), (55, .istore_n 3, 0), (56, .iload_n 3, 0), (57, .aload_n 0, 0)]), (80, [(58, .getfield 309, 0), (61, .if_icmp .ge 39, 100), (64, .aload_n 0, 0), (65, .getfield 99, 0), (68, .iload_n 3, 0), (69, .dup2, 0), (70, .iaload, 0), (71, .aload_n 0, 0), (72, .bipush 70, 0), (74, .aload_n 0, 0), (75, .getfield 75, 0), (78, .bipush 71, 0)]), (94, [(80, .iload_n 3, 0), (81, .iadd, 0), (82, .iaload, 0), (83, .invokevirtual 339, 0), (86, .iconst 1, 0), (87, .iload_n 3, 0), (88, .ishl, 0), (89, .iconst (-1), 0), (90, .ixor, 0), (91, .iand, 0), (92, .ior, 0), (93, .iastore, 0)]), (117, [(94, .iinc 3 1, 0), (97, .goto (-41), 56), (100, .aload_n 0, 0), (101, .bipush 70, 0), (103, .invokevirtual 379, 0), (106, .iinc 2 1, 0), (109, .goto (-60), 49), (112, .iconst (-1), 0), (113, .istore_n 2, 0), (114, .iconst 0, 0), (115, .istore_n 3, 0), (116, .iload_n 3, 0)]), (138, [(117, .iconst 1, 0), (118, .aload_n 0, 0), (119, .getfield 309, 0), (122, .ishl, 0), (123, .if_icmp .ge 89, 212), (126, .iconst 1, 0), (127, .istore 4, 0), (129, .iconst 0, 0), (130, .istore 5, 0), (132, .iload 5, 0), (134, .aload_n 0, 0), (135, .getfield 309, 0)]), (160, [(138, .if_icmp .ge 45, 183), (141, .iload 4, 0), (143, .ifCond .eq 31, 174), (146, .iload_n 3, 0), (147, .iload 5, 0), (149, .ishr, 0), (150, .iconst 1, 0), (151, .iand, 0), (152, .iconst 1, 0), (153, .if_icmp .eq 17, 170), (156, .aload_n 0, 0), (157, .getfield 99, 0)]), (180, [(160, .iload 5, 0), (162, .iaload, 0), (163, .iload_n 3, 0), (164, .iconst (-1), 0), (165, .ixor, 0), (166, .iand, 0), (167, .ifCond .ne 7, 174), (170, .iconst 1, 0), (171, .goto 4, 175), (174, .iconst 0, 0), (175, .istore 4, 0), (177, .iinc 5 1, 0)]), (205, [(180, .goto (-48), 132), (183, .iload 4, 0), (185, .ifCond .eq 21, 206), (188, .iload_n 2, 0), (189, .iconst (-1), 0), (190, .if_icmp .eq 14, 204), (193, .iload_n 3, 0), (194, .invokestatic 342, 0), (197, .iload_n 2, 0), (198, .invokestatic 342, 0), (201, .if_icmp .ge 5, 206), (204, .iload_n 3, 0)]), (1000000, [(205, .istore_n 2, 0), (206, .iinc 3 1, 0), (209, .goto (-93), 116), (212, .iload_n 2, 0), (213, .ireturn, 0)])]
theorem ik_X12_toThin : (i_X12_toThin).all (fun q => q.2.all (pm_ckI cX12_toThin)) = true := by decide +kernel
def i_X12_sits : List (Nat × List (Nat × Instr × Nat)) := [(19, [(0, .aload_n 0, 0), (1, .getfield 102, 0), (4, .bipush 8, 0), (6, .iload_n 1, 0), (7, .imul, 0), (8, .iload_n 2, 0), (9, .iadd, 0), (10, .iaload, 0), (11, .aload_n 0, 0), (12, .getfield 105, 0), (15, .sipush 256, 0), (18, .iload_n 1, 0)]), (1000000, [(19, .iconst 1, 0), (20, .iadd, 0), (21, .imul, 0), (22, .iload_n 3, 0), (23, .iconst 1, 0), (24, .iload_n 2, 0), (25, .ishl, 0), (26, .ior, 0), (27, .iadd, 0), (28, .iaload, 0), (29, .iadd, 0), (30, .ireturn, 0)])]
theorem ik_X12_sits : (i_X12_sits).all (fun q => q.2.all (pm_ckI cX12_sits)) = true := by decide +kernel
def i_X12_canSit : List (Nat × List (Nat × Instr × Nat)) := [(17, [(0, .iload_n 3, 0), (1, .iload_n 2, 0), (2, .ishr, 0), (3, .iconst 1, 0), (4, .iand, 0), (5, .ifCond .ne 24, 29), (8, .aload_n 0, 0), (9, .getfield 102, 0), (12, .bipush 8, 0), (14, .iload_n 1, 0), (15, .imul, 0), (16, .iload_n 2, 0)]), (1000000, [(17, .iadd, 0), (18, .iaload, 0), (19, .sipush 9999, 0), (22, .if_icmp .ge 7, 29), (25, .iconst 1, 0), (26, .goto 4, 30), (29, .iconst 0, 0), (30, .ireturn, 0)])]
theorem ik_X12_canSit : (i_X12_canSit).all (fun q => q.2.all (pm_ckI cX12_canSit)) = true := by decide +kernel
def i_X12_laysSeats : List (Nat × List (Nat × Instr × Nat)) := [(20, [(0, .iconst 0, 0), (1, .istore_n 1, 0), (2, .iload_n 1, 0), (3, .aload_n 0, 0), (4, .getfield 312, 0), (7, .if_icmp .ge 59, 66), (10, .aload_n 0, 0), (11, .aload_n 0, 0), (12, .getfield 32, 0), (15, .iload_n 1, 0), (16, .iaload, 0), (17, .invokevirtual 382, 0)]), (39, [(20, .iconst 0, 0), (21, .istore_n 2, 0), (22, .iload_n 2, 0), (23, .aload_n 0, 0), (24, .getfield 309, 0), (27, .if_icmp .ge 33, 60), (30, .aload_n 0, 0), (31, .getfield 102, 0), (34, .bipush 8, 0), (36, .iload_n 2, 0), (37, .imul, 0), (38, .iload_n 1, 0)]), (57, [(39, .iadd, 0), (40, .aload_n 0, 0), (41, .getfield 90, 0), (44, .aload_n 0, 0), (45, .getfield 75, 0), (48, .iconst 1, 0), (49, .iload_n 2, 0), (50, .iadd, 0), (51, .iaload, 0), (52, .iaload, 0), (53, .iastore, 0), (54, .iinc 2 1, 0)]), (83, [(57, .goto (-35), 22), (60, .iinc 1 1, 0), (63, .goto (-61), 2), (66, .iconst 0, 0), (67, .istore_n 1, 0), (68, .iload_n 1, 0), (69, .sipush 256, 0), (72, .if_icmp .ge 25, 97), (75, .aload_n 0, 0), (76, .getfield 105, 0), (79, .sipush 256, 0), (82, .aload_n 0, 0)]), (103, [(83, .getfield 309, 0), (86, .imul, 0), (87, .iload_n 1, 0), (88, .iadd, 0), (89, .iconst 0, 0), (90, .iastore, 0), (91, .iinc 1 1, 0), (94, .goto (-26), 68), (97, .aload_n 0, 0), (98, .getfield 309, 0), (101, .iconst 1, 0), (102, .isub, 0)]), (123, [(103, .istore_n 1, 0), (104, .iload_n 1, 0), (105, .ifCond .lt 101, 206), (108, .iconst 0, 0), (109, .istore_n 2, 0), (110, .iload_n 2, 0), (111, .iconst 1, 0), (112, .aload_n 0, 0), (113, .getfield 312, 0), (116, .ishl, 0), (117, .if_icmp .ge 83, 200), (120, .sipush 1000, 0)]), (139, [(123, .aload_n 0, 0), (124, .getfield 105, 0), (127, .sipush 256, 0), (130, .iload_n 1, 0), (131, .iconst 1, 0), (132, .iadd, 0), (133, .imul, 0), (134, .iload_n 2, 0), (135, .iadd, 0), (136, .iaload, 0), (137, .iadd, 0), (138, .istore_n 3, 0)]), (162, [(139, .iconst 0, 0), (140, .istore 4, 0), (142, .iload 4, 0), (144, .aload_n 0, 0), (145, .getfield 312, 0), (148, .if_icmp .ge 33, 181), (151, .aload_n 0, 0), (152, .iload_n 1, 0), (153, .iload 4, 0), (155, .iload_n 2, 0), (156, .invokevirtual 440, 0), (159, .ifCond .eq 16, 175)]), (185, [(162, .iload_n 3, 0), (163, .aload_n 0, 0), (164, .iload_n 1, 0), (165, .iload 4, 0), (167, .iload_n 2, 0), (168, .invokevirtual 443, 0), (171, .invokestatic 366, 0), (174, .istore_n 3, 0), (175, .iinc 4 1, 0), (178, .goto (-36), 142), (181, .aload_n 0, 0), (182, .getfield 105, 0)]), (1000000, [(185, .sipush 256, 0), (188, .iload_n 1, 0), (189, .imul, 0), (190, .iload_n 2, 0), (191, .iadd, 0), (192, .iload_n 3, 0), (193, .iastore, 0), (194, .iinc 2 1, 0), (197, .goto (-87), 110), (200, .iinc 1 (-1), 0), (203, .goto (-99), 104), (206, .return_, 0)])]
theorem ik_X12_laysSeats : (i_X12_laysSeats).all (fun q => q.2.all (pm_ckI cX12_laysSeats)) = true := by decide +kernel
def i_X12_seats : List (Nat × List (Nat × Instr × Nat)) := [(20, [(0, .aload_n 0, 0), (1, .iconst 0, 0), (2, .putfield 126, 0), (5, .aload_n 0, 0), (6, .iload_n 1, 0), (7, .iconst 1, 0), (8, .invokevirtual 401, 0), (11, .ifCond .ne 5, 16), (14, .iconst 0, 0), (15, .ireturn, 0), (16, .aload_n 0, 0), (17, .invokevirtual 446, 0)]), (42, [(20, .iload_n 1, 0), (21, .ifCond .ne 21, 42), (24, .aload_n 0, 0), (25, .getfield 309, 0), (28, .aload_n 0, 0), (29, .getfield 105, 0), (32, .iconst 0, 0), (33, .iaload, 0), (34, .sipush 1000, 0), (37, .idiv, 0), (38, .isub, 0), (39, .goto 13, 52)]), (1000000, [(42, .aload_n 0, 0), (43, .getfield 105, 0), (46, .iconst 0, 0), (47, .iaload, 0), (48, .sipush 1000, 0), (51, .irem, 0), (52, .ireturn, 0)])]
theorem ik_X12_seats : (i_X12_seats).all (fun q => q.2.all (pm_ckI cX12_seats)) = true := by decide +kernel
def i_X12_seat : List (Nat × List (Nat × Instr × Nat)) := [(20, [(0, .aload_n 0, 0), (1, .iconst 0, 0), (2, .putfield 126, 0), (5, .aload_n 0, 0), (6, .iload_n 1, 0), (7, .invokevirtual 398, 0), (10, .ifCond .ne 5, 15), (13, .iconst 0, 0), (14, .ireturn, 0), (15, .aload_n 0, 0), (16, .invokevirtual 446, 0), (19, .iconst 0, 0)]), (38, [(20, .istore_n 2, 0), (21, .iconst (-1), 0), (22, .istore_n 3, 0), (23, .iconst 0, 0), (24, .istore 4, 0), (26, .iload 4, 0), (28, .iload_n 1, 0), (29, .if_icmp .gt 81, 110), (32, .iconst (-1), 0), (33, .istore_n 3, 0), (34, .aload_n 0, 0), (35, .getfield 312, 0)]), (60, [(38, .iconst 1, 0), (39, .isub, 0), (40, .istore 5, 0), (42, .iload 5, 0), (44, .ifCond .lt 49, 93), (47, .aload_n 0, 0), (48, .iload 4, 0), (50, .iload 5, 0), (52, .iload_n 2, 0), (53, .invokevirtual 440, 0), (56, .ifCond .eq 31, 87), (59, .aload_n 0, 0)]), (81, [(60, .iload 4, 0), (62, .iload 5, 0), (64, .iload_n 2, 0), (65, .invokevirtual 443, 0), (68, .aload_n 0, 0), (69, .getfield 105, 0), (72, .sipush 256, 0), (75, .iload 4, 0), (77, .imul, 0), (78, .iload_n 2, 0), (79, .iadd, 0), (80, .iaload, 0)]), (102, [(81, .if_icmp .ne 6, 87), (84, .iload 5, 0), (86, .istore_n 3, 0), (87, .iinc 5 (-1), 0), (90, .goto (-48), 42), (93, .iload_n 3, 0), (94, .iconst (-1), 0), (95, .if_icmp .eq 9, 104), (98, .iload_n 2, 0), (99, .iconst 1, 0), (100, .iload_n 3, 0), (101, .ishl, 0)]), (1000000, [(102, .ior, 0), (103, .istore_n 2, 0), (104, .iinc 4 1, 0), (107, .goto (-81), 26), (110, .iload_n 3, 0), (111, .ireturn, 0)])]
theorem ik_X12_seat : (i_X12_seat).all (fun q => q.2.all (pm_ckI cX12_seat)) = true := by decide +kernel
def i_X12_note : List (Nat × List (Nat × Instr × Nat)) := [(22, [(0, .aload_n 0, 0), (1, .iconst 0, 0), (2, .putfield 126, 0), (5, .aload_n 0, 0), (6, .iload_n 1, 0), (7, .invokevirtual 398, 0), (10, .ifCond .eq 11, 21), (13, .aload_n 0, 0), (14, .iload_n 2, 0), (15, .invokevirtual 404, 0), (18, .ifCond .ne 5, 23), (21, .iconst 0, 0)]), (44, [(22, .ireturn, 0), (23, .aload_n 0, 0), (24, .getfield 325, 0), (27, .bipush 8, 0), (29, .if_icmp .eq 13, 42), (32, .iload_n 3, 0), (33, .iconst 0, 0), (34, .bipush 20, 0), (36, .invokestatic 385, 0), (39, .ifCond .ne 9, 48), (42, .aload_n 0, 0), (43, .iconst 2, 0)]), (64, [(44, .invokevirtual 410, 0), (47, .ireturn, 0), (48, .aload_n 0, 0), (49, .getfield 108, 0), (52, .iconst 3, 0), (53, .aload_n 0, 0), (54, .getfield 325, 0), (57, .imul, 0), (58, .iload_n 1, 0), (59, .iastore, 0), (60, .aload_n 0, 0), (61, .getfield 108, 0)]), (80, [(64, .iconst 3, 0), (65, .aload_n 0, 0), (66, .getfield 325, 0), (69, .imul, 0), (70, .iconst 1, 0), (71, .iadd, 0), (72, .iload_n 2, 0), (73, .iastore, 0), (74, .aload_n 0, 0), (75, .getfield 108, 0), (78, .iconst 3, 0), (79, .aload_n 0, 0)]), (98, [(80, .getfield 325, 0), (83, .imul, 0), (84, .iconst 2, 0), (85, .iadd, 0), (86, .iload_n 3, 0), (87, .iastore, 0), (88, .aload_n 0, 0), (89, .dup, 0), (90, .getfield 325, 0), (93, .iconst 1, 0), (94, .iadd, 0), (95, .putfield 325, 0)]), (1000000, [(98, .aload_n 0, 0), (99, .getfield 325, 0), (102, .ireturn, 0)])]
theorem ik_X12_note : (i_X12_note).all (fun q => q.2.all (pm_ckI cX12_note)) = true := by decide +kernel
end
section
def i_X12_forget : List (Nat × List (Nat × Instr × Nat)) := [(1000000, [(0, .aload_n 0, 0), (1, .iconst 0, 0), (2, .putfield 126, 0), (5, .aload_n 0, 0), (6, .iconst 0, 0), (7, .putfield 325, 0), (10, .return_, 0)])]
theorem ik_X12_forget : (i_X12_forget).all (fun q => q.2.all (pm_ckI cX12_forget)) = true := by decide +kernel
def i_X12_isNoted : List (Nat × List (Nat × Instr × Nat)) := [(19, [(0, .iconst 0, 0), (1, .istore_n 1, 0), (2, .iload_n 1, 0), (3, .bipush 20, 0), (5, .if_icmp .gt 112, 117), (8, .iconst 0, 0), (9, .istore_n 2, 0), (10, .iload_n 2, 0), (11, .aload_n 0, 0), (12, .getfield 325, 0), (15, .if_icmp .ge 54, 69), (18, .aload_n 0, 0)]), (38, [(19, .getfield 108, 0), (22, .iconst 3, 0), (23, .iload_n 2, 0), (24, .imul, 0), (25, .iconst 2, 0), (26, .iadd, 0), (27, .iaload, 0), (28, .iload_n 1, 0), (29, .if_icmp .ne 34, 63), (32, .aload_n 0, 0), (33, .getfield 75, 0), (36, .bipush 71, 0)]), (54, [(38, .aload_n 0, 0), (39, .getfield 108, 0), (42, .iconst 3, 0), (43, .iload_n 2, 0), (44, .imul, 0), (45, .iaload, 0), (46, .iadd, 0), (47, .iaload, 0), (48, .aload_n 0, 0), (49, .getfield 108, 0), (52, .iconst 3, 0), (53, .iload_n 2, 0)]), (74, [(54, .imul, 0), (55, .iconst 1, 0), (56, .iadd, 0), (57, .iaload, 0), (58, .if_icmp .eq 5, 63), (61, .iconst 0, 0), (62, .ireturn, 0), (63, .iinc 2 1, 0), (66, .goto (-56), 10), (69, .iload_n 1, 0), (70, .iconst 5, 0), (71, .if_icmp .ne 34, 105)]), (95, [(74, .iconst 0, 0), (75, .istore_n 2, 0), (76, .iload_n 2, 0), (77, .aload_n 0, 0), (78, .getfield 309, 0), (81, .if_icmp .ge 24, 105), (84, .aload_n 0, 0), (85, .getfield 111, 0), (88, .iload_n 2, 0), (89, .aload_n 0, 0), (90, .getfield 75, 0), (93, .bipush 71, 0)]), (118, [(95, .iload_n 2, 0), (96, .iadd, 0), (97, .iaload, 0), (98, .iastore, 0), (99, .iinc 2 1, 0), (102, .goto (-26), 76), (105, .aload_n 0, 0), (106, .bipush 70, 0), (108, .invokevirtual 379, 0), (111, .iinc 1 1, 0), (114, .goto (-112), 2), (117, .iconst 1, 0)]), (1000000, [(118, .ireturn, 0)])]
theorem ik_X12_isNoted : (i_X12_isNoted).all (fun q => q.2.all (pm_ckI cX12_isNoted)) = true := by decide +kernel
def i_X12_isGuess : List (Nat × List (Nat × Instr × Nat)) := [(18, [(0, .iload_n 1, 0), (1, .bipush 10, 0), (3, .idiv, 0), (4, .istore_n 2, 0), (5, .iload_n 1, 0), (6, .bipush 10, 0), (8, .irem, 0), (9, .aload_n 0, 0), (10, .getfield 25, 0), (13, .iload_n 2, 0), (14, .iaload, 0), (15, .if_icmp .ge 19, 34)]), (36, [(18, .aload_n 0, 0), (19, .getfield 75, 0), (22, .bipush 25, 0), (24, .iload_n 2, 0), (25, .iadd, 0), (26, .iaload, 0), (27, .iload_n 1, 0), (28, .bipush 10, 0), (30, .irem, 0), (31, .if_icmp .ne 5, 36), (34, .iconst 0, 0), (35, .ireturn, 0)]), (54, [(36, .aload_n 0, 0), (37, .invokevirtual 416, 0), (40, .aload_n 0, 0), (41, .getfield 75, 0), (44, .bipush 95, 0), (46, .iload_n 2, 0), (47, .iadd, 0), (48, .iload_n 1, 0), (49, .bipush 10, 0), (51, .irem, 0), (52, .iastore, 0), (53, .aload_n 0, 0)]), (1000000, [(54, .invokevirtual 449, 0), (57, .ireturn, 0)])]
theorem ik_X12_isGuess : (i_X12_isGuess).all (fun q => q.2.all (pm_ckI cX12_isGuess)) = true := by decide +kernel
def i_X12_ahead : List (Nat × List (Nat × Instr × Nat)) := [(18, [(0, .aload_n 0, 0), (1, .iconst 0, 0), (2, .putfield 126, 0), (5, .aload_n 0, 0), (6, .iload_n 1, 0), (7, .iconst 2, 0), (8, .invokevirtual 401, 0), (11, .ifCond .ne 5, 16), (14, .iconst 0, 0), (15, .ireturn, 0), (16, .iload_n 1, 0), (17, .iconst 2, 0)]), (40, [(18, .if_icmp .ne 20, 38), (21, .aload_n 0, 0), (22, .invokevirtual 416, 0), (25, .aload_n 0, 0), (26, .invokevirtual 449, 0), (29, .ifCond .eq 7, 36), (32, .iconst 1, 0), (33, .goto 4, 37), (36, .iconst 0, 0), (37, .ireturn, 0), (38, .iconst 0, 0), (39, .istore_n 2, 0)]), (60, [(40, .iconst (-1), 0), (41, .istore_n 3, 0), (42, .iconst 0, 0), (43, .istore 4, 0), (45, .iload 4, 0), (47, .bipush 10, 0), (49, .aload_n 0, 0), (50, .getfield 309, 0), (53, .imul, 0), (54, .if_icmp .ge 32, 86), (57, .aload_n 0, 0), (58, .iload 4, 0)]), (87, [(60, .invokevirtual 452, 0), (63, .ifCond .ne 6, 69), (66, .goto 14, 80), (69, .iinc 2 1, 0), (72, .iload_n 3, 0), (73, .iconst (-1), 0), (74, .if_icmp .ne 6, 80), (77, .iload 4, 0), (79, .istore_n 3, 0), (80, .iinc 4 1, 0), (83, .goto (-38), 45), (86, .iload_n 1, 0)]), (1000000, [(87, .ifCond .ne 7, 94), (90, .iload_n 2, 0), (91, .goto 4, 95), (94, .iload_n 3, 0), (95, .ireturn, 0)])]
theorem ik_X12_ahead : (i_X12_ahead).all (fun q => q.2.all (pm_ckI cX12_ahead)) = true := by decide +kernel
def i_X12_look : List (Nat × List (Nat × Instr × Nat)) := [(18, [(0, .aload_n 0, 0), (1, .iconst 0, 0), (2, .putfield 126, 0), (5, .aload_n 0, 0), (6, .iload_n 1, 0), (7, .iconst 1, 0), (8, .invokevirtual 401, 0), (11, .ifCond .ne 5, 16), (14, .iconst 0, 0), (15, .ireturn, 0), (16, .iconst 0, 0), (17, .istore_n 2, 0)]), (39, [(18, .iconst 0, 0), (19, .istore_n 3, 0), (20, .iload_n 3, 0), (21, .bipush 10, 0), (23, .aload_n 0, 0), (24, .getfield 309, 0), (27, .imul, 0), (28, .if_icmp .ge 60, 88), (31, .aload_n 0, 0), (32, .iload_n 3, 0), (33, .invokevirtual 452, 0), (36, .ifCond .ne 6, 42)]), (62, [(39, .goto 43, 82), (42, .iconst 0, 0), (43, .istore 4, 0), (45, .iload 4, 0), (47, .aload_n 0, 0), (48, .getfield 309, 0), (51, .if_icmp .ge 28, 79), (54, .aload_n 0, 0), (55, .getfield 114, 0), (58, .bipush 8, 0), (60, .iload_n 2, 0), (61, .imul, 0)]), (88, [(62, .iload 4, 0), (64, .iadd, 0), (65, .aload_n 0, 0), (66, .getfield 111, 0), (69, .iload 4, 0), (71, .iaload, 0), (72, .iastore, 0), (73, .iinc 4 1, 0), (76, .goto (-31), 45), (79, .iinc 2 1, 0), (82, .iinc 3 1, 0), (85, .goto (-65), 20)]), (108, [(88, .iconst (-1), 0), (89, .istore_n 3, 0), (90, .iconst 0, 0), (91, .istore 4, 0), (93, .iconst 0, 0), (94, .istore 5, 0), (96, .iload 5, 0), (98, .aload_n 0, 0), (99, .getfield 309, 0), (102, .if_icmp .ge 119, 221), (105, .iconst 0, 0), (106, .istore 6, 0)]), (130, [(108, .iconst 0, 0), (109, .istore 7, 0), (111, .iload 7, 0), (113, .iload_n 2, 0), (114, .if_icmp .ge 84, 198), (117, .iconst 1, 0), (118, .istore 8, 0), (120, .iconst 0, 0), (121, .istore 9, 0), (123, .iload 9, 0), (125, .iload 7, 0), (127, .if_icmp .ge 50, 177)]), (152, [(130, .iload 8, 0), (132, .ifCond .eq 45, 177), (135, .aload_n 0, 0), (136, .getfield 114, 0), (139, .bipush 8, 0), (141, .iload 7, 0), (143, .imul, 0), (144, .iload 5, 0), (146, .iadd, 0), (147, .iaload, 0), (148, .aload_n 0, 0), (149, .getfield 114, 0)]), (174, [(152, .bipush 8, 0), (154, .iload 9, 0), (156, .imul, 0), (157, .iload 5, 0), (159, .iadd, 0), (160, .iaload, 0), (161, .if_icmp .eq 7, 168), (164, .iconst 1, 0), (165, .goto 4, 169), (168, .iconst 0, 0), (169, .istore 8, 0), (171, .iinc 9 1, 0)]), (200, [(174, .goto (-51), 123), (177, .iload 6, 0), (179, .iload 8, 0), (181, .ifCond .eq 7, 188), (184, .iconst 1, 0), (185, .goto 4, 189), (188, .iconst 0, 0), (189, .iadd, 0), (190, .istore 6, 0), (192, .iinc 7 1, 0), (195, .goto (-84), 111), (198, .iload 6, 0)]), (226, [(200, .iload 4, 0), (202, .if_icmp .gt 6, 208), (205, .goto 10, 215), (208, .iload 5, 0), (210, .istore_n 3, 0), (211, .iload 6, 0), (213, .istore 4, 0), (215, .iinc 5 1, 0), (218, .goto (-122), 96), (221, .iload_n 1, 0), (222, .ifCond .ne 7, 229), (225, .iload_n 3, 0)]), (1000000, [(226, .goto 5, 231), (229, .iload 4, 0), (231, .ireturn, 0)])]
theorem ik_X12_look : (i_X12_look).all (fun q => q.2.all (pm_ckI cX12_look)) = true := by decide +kernel
def i_X12_clouds : List (Nat × List (Nat × Instr × Nat)) := [(22, [(0, .aload_n 0, 0), (1, .iconst 0, 0), (2, .putfield 126, 0), (5, .aload_n 0, 0), (6, .iload_n 1, 0), (7, .invokevirtual 398, 0), (10, .ifCond .eq 44, 54), (13, .aload_n 0, 0), (14, .iload_n 2, 0), (15, .invokevirtual 404, 0), (18, .ifCond .eq 36, 54), (21, .aload_n 0, 0)]), (46, [(22, .iload_n 3, 0), (23, .iconst 1, 0), (24, .iconst 5, 0), (25, .invokestatic 385, 0), (28, .ifCond .eq 18, 46), (31, .iload 4, 0), (33, .iconst 0, 0), (34, .bipush 10, 0), (36, .invokestatic 385, 0), (39, .ifCond .eq 7, 46), (42, .iconst 1, 0), (43, .goto 4, 47)]), (65, [(46, .iconst 0, 0), (47, .iconst 2, 0), (48, .invokevirtual 302, 0), (51, .ifCond .ne 5, 56), (54, .iconst 0, 0), (55, .ireturn, 0), (56, .iconst 0, 0), (57, .istore 5, 0), (59, .iconst 0, 0), (60, .istore 6, 0), (62, .iload 6, 0), (64, .iconst 1, 0)]), (86, [(65, .iload_n 3, 0), (66, .ishl, 0), (67, .if_icmp .ge 95, 162), (70, .iconst 1, 0), (71, .istore 7, 0), (73, .aload_n 0, 0), (74, .invokevirtual 416, 0), (77, .iconst 0, 0), (78, .istore 8, 0), (80, .iload 8, 0), (82, .iload_n 3, 0), (83, .if_icmp .ge 49, 132)]), (107, [(86, .aload_n 0, 0), (87, .iload 6, 0), (89, .iload 8, 0), (91, .ishr, 0), (92, .iconst 1, 0), (93, .iand, 0), (94, .putfield 87, 0), (97, .iload 7, 0), (99, .aload_n 0, 0), (100, .getfield 87, 0), (103, .iconst 1, 0), (104, .if_icmp .ne 8, 112)]), (132, [(107, .iload 4, 0), (109, .goto 8, 117), (112, .bipush 10, 0), (114, .iload 4, 0), (116, .isub, 0), (117, .imul, 0), (118, .istore 7, 0), (120, .aload_n 0, 0), (121, .bipush 70, 0), (123, .invokevirtual 379, 0), (126, .iinc 8 1, 0), (129, .goto (-49), 80)]), (153, [(132, .iload 5, 0), (134, .aload_n 0, 0), (135, .getfield 75, 0), (138, .bipush 71, 0), (140, .iload_n 1, 0), (141, .iadd, 0), (142, .iaload, 0), (143, .iload_n 2, 0), (144, .if_icmp .ne 8, 152), (147, .iload 7, 0), (149, .goto 4, 153), (152, .iconst 0, 0)]), (1000000, [(153, .iadd, 0), (154, .istore 5, 0), (156, .iinc 6 1, 0), (159, .goto (-97), 62), (162, .aload_n 0, 0), (163, .iconst (-1), 0), (164, .putfield 87, 0), (167, .iload 5, 0), (169, .ireturn, 0)])]
theorem ik_X12_clouds : (i_X12_clouds).all (fun q => q.2.all (pm_ckI cX12_clouds)) = true := by decide +kernel
def i_X12_gains : List (Nat × List (Nat × Instr × Nat)) := [(19, [(0, .aload_n 0, 0), (1, .invokevirtual 416, 0), (4, .iload_n 3, 0), (5, .iconst 1, 0), (6, .if_icmp .ne 13, 19), (9, .aload_n 0, 0), (10, .getfield 75, 0), (13, .bipush 87, 0), (15, .iload_n 1, 0), (16, .iadd, 0), (17, .iconst 3, 0), (18, .iastore, 0)]), (38, [(19, .iload 4, 0), (21, .iconst 1, 0), (22, .if_icmp .ne 13, 35), (25, .aload_n 0, 0), (26, .getfield 75, 0), (29, .bipush 87, 0), (31, .iload_n 2, 0), (32, .iadd, 0), (33, .iconst 3, 0), (34, .iastore, 0), (35, .iconst 0, 0), (36, .istore 5, 0)]), (60, [(38, .iconst 0, 0), (39, .istore 6, 0), (41, .iload 6, 0), (43, .bipush 8, 0), (45, .if_icmp .ge 35, 80), (48, .aload_n 0, 0), (49, .bipush 70, 0), (51, .invokevirtual 379, 0), (54, .iload 5, 0), (56, .aload_n 0, 0), (57, .bipush 70, 0), (59, .iload_n 1, 0)]), (86, [(60, .invokevirtual 348, 0), (63, .ifCond .le 7, 70), (66, .iconst 2, 0), (67, .goto 4, 71), (70, .iconst 0, 0), (71, .iadd, 0), (72, .istore 5, 0), (74, .iinc 6 1, 0), (77, .goto (-36), 41), (80, .iload 5, 0), (82, .aload_n 0, 0), (83, .getfield 75, 0)]), (1000000, [(86, .bipush 79, 0), (88, .iload_n 1, 0), (89, .iadd, 0), (90, .iaload, 0), (91, .iconst 2, 0), (92, .idiv, 0), (93, .isub, 0), (94, .ireturn, 0)])]
theorem ik_X12_gains : (i_X12_gains).all (fun q => q.2.all (pm_ckI cX12_gains)) = true := by decide +kernel
def i_X12_game : List (Nat × List (Nat × Instr × Nat)) := [(22, [(0, .aload_n 0, 0), (1, .iconst 0, 0), (2, .putfield 126, 0), (5, .aload_n 0, 0), (6, .iload_n 1, 0), (7, .invokevirtual 398, 0), (10, .ifCond .eq 38, 48), (13, .aload_n 0, 0), (14, .iload_n 2, 0), (15, .invokevirtual 398, 0), (18, .ifCond .eq 30, 48), (21, .aload_n 0, 0)]), (42, [(22, .iload_n 3, 0), (23, .iconst 1, 0), (24, .invokevirtual 401, 0), (27, .ifCond .eq 21, 48), (30, .aload_n 0, 0), (31, .iload_n 1, 0), (32, .iload_n 2, 0), (33, .if_icmp .eq 7, 40), (36, .iconst 1, 0), (37, .goto 4, 41), (40, .iconst 0, 0), (41, .iconst 2, 0)]), (62, [(42, .invokevirtual 302, 0), (45, .ifCond .ne 5, 50), (48, .iconst 0, 0), (49, .ireturn, 0), (50, .iconst 0, 0), (51, .istore 4, 0), (53, .iconst (-1), 0), (54, .istore 5, 0), (56, .iconst 0, 0), (57, .istore 6, 0), (59, .iload 6, 0), (61, .iconst 4, 0)]), (80, [(62, .if_icmp .ge 93, 155), (65, .iload 6, 0), (67, .iconst 2, 0), (68, .idiv, 0), (69, .istore 7, 0), (71, .iload 6, 0), (73, .iconst 2, 0), (74, .irem, 0), (75, .istore 8, 0), (77, .aload_n 0, 0), (78, .iload_n 1, 0), (79, .iload_n 2, 0)]), (102, [(80, .iconst 1, 0), (81, .iload 7, 0), (83, .isub, 0), (84, .iload 8, 0), (86, .invokevirtual 455, 0), (89, .aload_n 0, 0), (90, .iload_n 1, 0), (91, .iload_n 2, 0), (92, .iload 7, 0), (94, .iload 8, 0), (96, .invokevirtual 455, 0), (99, .if_icmp .gt 50, 149)]), (119, [(102, .aload_n 0, 0), (103, .iload_n 2, 0), (104, .iload_n 1, 0), (105, .iconst 1, 0), (106, .iload 8, 0), (108, .isub, 0), (109, .iload 7, 0), (111, .invokevirtual 455, 0), (114, .aload_n 0, 0), (115, .iload_n 2, 0), (116, .iload_n 1, 0), (117, .iload 8, 0)]), (146, [(119, .iload 7, 0), (121, .invokevirtual 455, 0), (124, .if_icmp .le 6, 130), (127, .goto 22, 149), (130, .iinc 4 1, 0), (133, .iload 5, 0), (135, .iconst (-1), 0), (136, .if_icmp .ne 13, 149), (139, .bipush 10, 0), (141, .iload 7, 0), (143, .imul, 0), (144, .iload 8, 0)]), (1000000, [(146, .iadd, 0), (147, .istore 5, 0), (149, .iinc 6 1, 0), (152, .goto (-93), 59), (155, .iload_n 3, 0), (156, .ifCond .ne 8, 164), (159, .iload 4, 0), (161, .goto 5, 166), (164, .iload 5, 0), (166, .ireturn, 0)])]
theorem ik_X12_game : (i_X12_game).all (fun q => q.2.all (pm_ckI cX12_game)) = true := by decide +kernel
def i_X12_draw : List (Nat × List (Nat × Instr × Nat)) := [(23, [(0, .aload_n 0, 0), (1, .aload_n 0, 0), (2, .getfield 459, 0), (5, .ldc_w 462, 0), (8, .imul, 0), (9, .sipush 12345, 0), (12, .iadd, 0), (13, .putfield 459, 0), (16, .aload_n 0, 0), (17, .getfield 459, 0), (20, .bipush 16, 0), (22, .ishr, 0)]), (1000000, [(23, .sipush 32767, 0), (26, .iand, 0), (27, .iload_n 1, 0), (28, .irem, 0), (29, .ireturn, 0)])]
theorem ik_X12_draw : (i_X12_draw).all (fun q => q.2.all (pm_ckI cX12_draw)) = true := by decide +kernel
def i_X12_happens : List (Nat × List (Nat × Instr × Nat)) := [(21, [(0, .aload_n 0, 0), (1, .bipush 6, 0), (3, .invokevirtual 463, 0), (6, .istore_n 1, 0), (7, .iload_n 1, 0), (8, .iconst 2, 0), (9, .if_icmp .gt 10, 19), (12, .aload_n 0, 0), (13, .getfield 309, 0), (16, .ifCond .ne 4, 20), (19, .return_, 0), (20, .aload_n 0, 0)]), (42, [(21, .aload_n 0, 0), (22, .getfield 309, 0), (25, .invokevirtual 463, 0), (28, .istore_n 2, 0), (29, .iload_n 1, 0), (30, .ifCond .ne 20, 50), (33, .aload_n 0, 0), (34, .getfield 75, 0), (37, .bipush 87, 0), (39, .iload_n 2, 0), (40, .iadd, 0), (41, .aload_n 0, 0)]), (64, [(42, .iconst 4, 0), (43, .invokevirtual 463, 0), (46, .iastore, 0), (47, .goto 69, 116), (50, .iload_n 1, 0), (51, .iconst 1, 0), (52, .if_icmp .ne 54, 106), (55, .aload_n 0, 0), (56, .aload_n 0, 0), (57, .getfield 7, 0), (60, .aload_n 0, 0), (61, .getfield 13, 0)]), (83, [(64, .imul, 0), (65, .invokevirtual 463, 0), (68, .istore_n 3, 0), (69, .aload_n 0, 0), (70, .getfield 75, 0), (73, .bipush 103, 0), (75, .iload_n 3, 0), (76, .iadd, 0), (77, .iaload, 0), (78, .iconst 1, 0), (79, .if_icmp .ne 4, 83), (82, .return_, 0)]), (101, [(83, .aload_n 0, 0), (84, .getfield 75, 0), (87, .bipush 71, 0), (89, .iload_n 2, 0), (90, .iadd, 0), (91, .iload_n 3, 0), (92, .iastore, 0), (93, .aload_n 0, 0), (94, .getfield 75, 0), (97, .bipush 87, 0), (99, .iload_n 2, 0), (100, .iadd, 0)]), (1000000, [(101, .iconst 0, 0), (102, .iastore, 0), (103, .goto 13, 116), (106, .aload_n 0, 0), (107, .getfield 75, 0), (110, .bipush 79, 0), (112, .iload_n 2, 0), (113, .iadd, 0), (114, .iconst 0, 0), (115, .iastore, 0), (116, .return_, 0)])]
theorem ik_X12_happens : (i_X12_happens).all (fun q => q.2.all (pm_ckI cX12_happens)) = true := by decide +kernel
def i_X12_years : List (Nat × List (Nat × Instr × Nat)) := [(18, [(0, .aload_n 0, 0), (1, .iconst 0, 0), (2, .putfield 126, 0), (5, .aload_n 0, 0), (6, .iload_n 3, 0), (7, .iconst 2, 0), (8, .invokevirtual 401, 0), (11, .ifCond .eq 13, 24), (14, .aload_n 0, 0), (15, .iload_n 2, 0), (16, .iconst 0, 0), (17, .iconst 2, 0)]), (39, [(18, .invokevirtual 422, 0), (21, .ifCond .ne 5, 26), (24, .iconst 0, 0), (25, .ireturn, 0), (26, .aload_n 0, 0), (27, .invokevirtual 416, 0), (30, .aload_n 0, 0), (31, .iload_n 1, 0), (32, .putfield 459, 0), (35, .iconst 0, 0), (36, .istore 4, 0), (38, .iconst 0, 0)]), (61, [(39, .istore 5, 0), (41, .iload 5, 0), (43, .iload_n 2, 0), (44, .if_icmp .ge 83, 127), (47, .aload_n 0, 0), (48, .invokevirtual 466, 0), (51, .aload_n 0, 0), (52, .bipush 70, 0), (54, .invokevirtual 379, 0), (57, .iconst 0, 0), (58, .istore 6, 0), (60, .iconst 0, 0)]), (86, [(61, .istore 7, 0), (63, .iload 7, 0), (65, .aload_n 0, 0), (66, .getfield 309, 0), (69, .if_icmp .ge 37, 106), (72, .aload_n 0, 0), (73, .bipush 70, 0), (75, .iload 7, 0), (77, .invokevirtual 348, 0), (80, .iload 6, 0), (82, .if_icmp .le 14, 96), (85, .aload_n 0, 0)]), (114, [(86, .bipush 70, 0), (88, .iload 7, 0), (90, .invokevirtual 348, 0), (93, .goto 5, 98), (96, .iload 6, 0), (98, .istore 6, 0), (100, .iinc 7 1, 0), (103, .goto (-40), 63), (106, .iload 4, 0), (108, .iload 6, 0), (110, .ifCond .le 7, 117), (113, .iconst 1, 0)]), (137, [(114, .goto 4, 118), (117, .iconst 0, 0), (118, .iadd, 0), (119, .istore 4, 0), (121, .iinc 5 1, 0), (124, .goto (-83), 41), (127, .iconst 0, 0), (128, .istore 5, 0), (130, .iconst 0, 0), (131, .istore 6, 0), (133, .iload 6, 0), (135, .bipush 36, 0)]), (161, [(137, .if_icmp .ge 30, 167), (140, .iload 5, 0), (142, .aload_n 0, 0), (143, .bipush 70, 0), (145, .iload 6, 0), (147, .invokevirtual 339, 0), (150, .ifCond .eq 7, 157), (153, .iconst 1, 0), (154, .goto 4, 158), (157, .iconst 0, 0), (158, .iadd, 0), (159, .istore 5, 0)]), (186, [(161, .iinc 6 1, 0), (164, .goto (-31), 133), (167, .iload_n 3, 0), (168, .ifCond .ne 8, 176), (171, .iload 4, 0), (173, .goto 25, 198), (176, .iload_n 3, 0), (177, .iconst 1, 0), (178, .if_icmp .ne 18, 196), (181, .aload_n 0, 0), (182, .bipush 70, 0), (184, .bipush 9, 0)]), (1000000, [(186, .aload_n 0, 0), (187, .getfield 309, 0), (190, .invokevirtual 389, 0), (193, .goto 5, 198), (196, .iload 5, 0), (198, .ireturn, 0)])]
theorem ik_X12_years : (i_X12_years).all (fun q => q.2.all (pm_ckI cX12_years)) = true := by decide +kernel
def i_X12_image : List (Nat × List (Nat × Instr × Nat)) := [(20, [(0, .aload_n 0, 0), (1, .iconst 0, 0), (2, .putfield 126, 0), (5, .aload_n 0, 0), (6, .iconst 1, 0), (7, .putfield 328, 0), (10, .aload_n 0, 0), (11, .aload_n 0, 0), (12, .getfield 322, 0), (15, .putfield 469, 0), (18, .aload_n 0, 0), (19, .aload_n 0, 0)]), (43, [(20, .getfield 325, 0), (23, .putfield 472, 0), (26, .iconst 0, 0), (27, .istore_n 1, 0), (28, .iload_n 1, 0), (29, .bipush 70, 0), (31, .if_icmp .ge 21, 52), (34, .aload_n 0, 0), (35, .getfield 117, 0), (38, .iload_n 1, 0), (39, .aload_n 0, 0), (40, .getfield 75, 0)]), (65, [(43, .iload_n 1, 0), (44, .iaload, 0), (45, .iastore, 0), (46, .iinc 1 1, 0), (49, .goto (-21), 28), (52, .aload_n 0, 0), (53, .aload_n 0, 0), (54, .getfield 78, 0), (57, .aload_n 0, 0), (58, .getfield 120, 0), (61, .invokevirtual 318, 0), (64, .aload_n 0, 0)]), (1000000, [(65, .aload_n 0, 0), (66, .getfield 108, 0), (69, .aload_n 0, 0), (70, .getfield 123, 0), (73, .invokevirtual 318, 0), (76, .return_, 0)])]
theorem ik_X12_image : (i_X12_image).all (fun q => q.2.all (pm_ckI cX12_image)) = true := by decide +kernel
def i_X12_restore : List (Nat × List (Nat × Instr × Nat)) := [(22, [(0, .aload_n 0, 0), (1, .iconst 0, 0), (2, .putfield 126, 0), (5, .aload_n 0, 0), (6, .getfield 328, 0), (9, .ifCond .ne 5, 14), (12, .iconst 0, 0), (13, .ireturn, 0), (14, .aload_n 0, 0), (15, .aload_n 0, 0), (16, .getfield 469, 0), (19, .putfield 322, 0)]), (43, [(22, .aload_n 0, 0), (23, .aload_n 0, 0), (24, .getfield 472, 0), (27, .putfield 325, 0), (30, .iconst 0, 0), (31, .istore_n 1, 0), (32, .iload_n 1, 0), (33, .bipush 70, 0), (35, .if_icmp .ge 21, 56), (38, .aload_n 0, 0), (39, .getfield 75, 0), (42, .iload_n 1, 0)]), (65, [(43, .aload_n 0, 0), (44, .getfield 117, 0), (47, .iload_n 1, 0), (48, .iaload, 0), (49, .iastore, 0), (50, .iinc 1 1, 0), (53, .goto (-21), 32), (56, .aload_n 0, 0), (57, .aload_n 0, 0), (58, .getfield 120, 0), (61, .aload_n 0, 0), (62, .getfield 78, 0)]), (1000000, [(65, .invokevirtual 318, 0), (68, .aload_n 0, 0), (69, .aload_n 0, 0), (70, .getfield 123, 0), (73, .aload_n 0, 0), (74, .getfield 108, 0), (77, .invokevirtual 318, 0), (80, .iconst 1, 0), (81, .ireturn, 0)])]
theorem ik_X12_restore : (i_X12_restore).all (fun q => q.2.all (pm_ckI cX12_restore)) = true := by decide +kernel
def i_J6_bitCount_0f7a4 : List (Nat × List (Nat × Instr × Nat)) := [(16, [(0, .iload_n 0, 0), (1, .iload_n 0, 0), (2, .iconst 1, 0), (3, .iushr, 0), (4, .ldc_w 265, 0), (7, .iand, 0), (8, .isub, 0), (9, .istore_n 0, 0), (10, .iload_n 0, 0), (11, .ldc_w 266, 0), (14, .iand, 0), (15, .iload_n 0, 0)]), (32, [(16, .iconst 2, 0), (17, .iushr, 0), (18, .ldc_w 266, 0), (21, .iand, 0), (22, .iadd, 0), (23, .istore_n 0, 0), (24, .iload_n 0, 0), (25, .iload_n 0, 0), (26, .iconst 4, 0), (27, .iushr, 0), (28, .iadd, 0), (29, .ldc_w 267, 0)]), (46, [(32, .iand, 0), (33, .istore_n 0, 0), (34, .iload_n 0, 0), (35, .iload_n 0, 0), (36, .bipush 8, 0), (38, .iushr, 0), (39, .iadd, 0), (40, .istore_n 0, 0), (41, .iload_n 0, 0), (42, .iload_n 0, 0), (43, .bipush 16, 0), (45, .iushr, 0)]), (1000000, [(46, .iadd, 0), (47, .istore_n 0, 0), (48, .iload_n 0, 0), (49, .bipush 63, 0), (51, .iand, 0), (52, .ireturn, 0)])]
theorem ik_J6_bitCount_0f7a4 : (i_J6_bitCount_0f7a4).all (fun q => q.2.all (pm_ckI cJ6_bitCount_0f7a4)) = true := by decide +kernel
def i_J13_bitCount_95d88 : List (Nat × List (Nat × Instr × Nat)) := [(16, [(0, .lload_n 0, 0), (1, .lload_n 0, 0), (2, .iconst 1, 0), (3, .lushr, 0), (4, .ldc2_w 314, 0), (7, .land, 0), (8, .lsub, 0), (9, .lstore_n 0, 0), (10, .lload_n 0, 0), (11, .ldc2_w 316, 0), (14, .land, 0), (15, .lload_n 0, 0)]), (32, [(16, .iconst 2, 0), (17, .lushr, 0), (18, .ldc2_w 316, 0), (21, .land, 0), (22, .ladd, 0), (23, .lstore_n 0, 0), (24, .lload_n 0, 0), (25, .lload_n 0, 0), (26, .iconst 4, 0), (27, .lushr, 0), (28, .ladd, 0), (29, .ldc2_w 318, 0)]), (46, [(32, .land, 0), (33, .lstore_n 0, 0), (34, .lload_n 0, 0), (35, .lload_n 0, 0), (36, .bipush 8, 0), (38, .lushr, 0), (39, .ladd, 0), (40, .lstore_n 0, 0), (41, .lload_n 0, 0), (42, .lload_n 0, 0), (43, .bipush 16, 0), (45, .lushr, 0)]), (60, [(46, .ladd, 0), (47, .lstore_n 0, 0), (48, .lload_n 0, 0), (49, .lload_n 0, 0), (50, .bipush 32, 0), (52, .lushr, 0), (53, .ladd, 0), (54, .lstore_n 0, 0), (55, .lload_n 0, 0), (56, .l2i, 0), (57, .bipush 127, 0), (59, .iand, 0)]), (1000000, [(60, .ireturn, 0)])]
theorem ik_J13_bitCount_95d88 : (i_J13_bitCount_95d88).all (fun q => q.2.all (pm_ckI cJ13_bitCount_95d88)) = true := by decide +kernel
def i_J9_max_7cf53 : List (Nat × List (Nat × Instr × Nat)) := [(1000000, [(0, .iload_n 0, 0), (1, .iload_n 1, 0), (2, .if_icmp .lt 7, 9), (5, .iload_n 0, 0), (6, .goto 4, 10), (9, .iload_n 1, 0), (10, .ireturn, 0)])]
theorem ik_J9_max_7cf53 : (i_J9_max_7cf53).all (fun q => q.2.all (pm_ckI cJ9_max_7cf53)) = true := by decide +kernel
def i_J9_min_7cf53 : List (Nat × List (Nat × Instr × Nat)) := [(1000000, [(0, .iload_n 0, 0), (1, .iload_n 1, 0), (2, .if_icmp .gt 7, 9), (5, .iload_n 0, 0), (6, .goto 4, 10), (9, .iload_n 1, 0), (10, .ireturn, 0)])]
theorem ik_J9_min_7cf53 : (i_J9_min_7cf53).all (fun q => q.2.all (pm_ckI cJ9_min_7cf53)) = true := by decide +kernel
def i_J7_fill_d0a16 : List (Nat × List (Nat × Instr × Nat)) := [(16, [(0, .iconst 0, 0), (1, .istore_n 3, 0), (2, .aload_n 0, 0), (3, .arraylength, 0), (4, .istore 4, 0), (6, .iload_n 3, 0), (7, .iload 4, 0), (9, .if_icmp .ge 13, 22), (12, .aload_n 0, 0), (13, .iload_n 3, 0), (14, .lload_n 1, 0), (15, .lastore, 0)]), (1000000, [(16, .iinc 3 1, 0), (19, .goto (-13), 6), (22, .return_, 0)])]
theorem ik_J7_fill_d0a16 : (i_J7_fill_d0a16).all (fun q => q.2.all (pm_ckI cJ7_fill_d0a16)) = true := by decide +kernel
def i_J7_fill_53178 : List (Nat × List (Nat × Instr × Nat)) := [(14, [(0, .iconst 0, 0), (1, .istore_n 2, 0), (2, .aload_n 0, 0), (3, .arraylength, 0), (4, .istore_n 3, 0), (5, .iload_n 2, 0), (6, .iload_n 3, 0), (7, .if_icmp .ge 13, 20), (10, .aload_n 0, 0), (11, .iload_n 2, 0), (12, .iload_n 1, 0), (13, .iastore, 0)]), (1000000, [(14, .iinc 2 1, 0), (17, .goto (-12), 5), (20, .return_, 0)])]
theorem ik_J7_fill_53178 : (i_J7_fill_53178).all (fun q => q.2.all (pm_ckI cJ7_fill_53178)) = true := by decide +kernel
end
