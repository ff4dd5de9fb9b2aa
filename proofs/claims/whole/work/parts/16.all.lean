def costs : List (Nat × Nat × Bool × Bool) := [(4, 1144, true, true), (0, 0, false, false), (0, 0, false, false), (0, 0, false, false), (0, 0, false, false), (0, 0, false, false), (0, 0, false, false), (0, 0, false, false), (6, 48, true, true), (0, 0, false, false), (0, 0, false, false), (0, 0, false, false), (1, 6, true, true), (0, 0, false, false), (0, 0, false, false), (0, 0, false, false), (0, 0, false, false), (0, 0, false, false), (0, 0, false, false), (11, 1598, true, true), (0, 0, false, false), (0, 0, false, false), (0, 0, false, false), (0, 0, false, false), (0, 0, false, false), (0, 0, false, false), (0, 0, false, false), (0, 0, false, false), (0, 0, false, false), (2, 134, true, true), (0, 0, false, false), (0, 0, false, false), (0, 0, false, false), (0, 0, false, false), (0, 0, false, false), (0, 0, false, false), (0, 0, false, false), (0, 0, false, false), (0, 0, false, false), (0, 0, false, false), (0, 0, false, false), (2, 748, true, true), (0, 0, false, false), (0, 0, false, false), (0, 0, false, false), (0, 0, false, false), (0, 0, false, false), (1, 128, true, true), (0, 0, false, false), (0, 0, false, false), (0, 0, false, false), (0, 0, false, false), (0, 0, false, false), (0, 0, false, false), (0, 0, false, false), (0, 0, false, false), (0, 0, false, false), (0, 0, false, false), (0, 0, false, false), (0, 0, false, false), (3, 2376, true, true), (0, 0, false, false), (0, 0, false, false), (0, 0, false, false), (0, 0, false, false), (0, 0, false, false), (4, 32, true, true), (0, 0, false, false), (0, 0, false, false), (0, 0, false, false), (0, 0, false, false), (0, 0, false, false), (0, 0, false, false), (0, 0, false, false), (0, 0, false, false), (0, 0, false, false), (0, 0, false, false), (0, 0, false, false), (0, 0, false, false), (0, 0, false, false), (1, 700, true, true), (0, 0, false, false), (0, 0, false, false), (0, 0, false, false), (0, 0, false, false), (0, 0, false, false), (0, 0, false, false), (0, 0, false, false), (0, 0, false, false), (0, 0, false, false), (0, 0, false, false), (2, 72, true, true), (0, 0, false, false), (0, 0, false, false), (0, 0, false, false), (0, 0, false, false), (74, 9060, true, true), (0, 0, false, false), (1, 6, false, false), (0, 0, false, false), (1, 6, false, false), (1, 6, false, false), (1, 6, false, false), (0, 0, false, false), (1, 6, false, false), (1, 6, false, false), (1, 6, false, false), (1, 6, false, false), (0, 0, false, false), (1, 6, false, false), (1, 6, false, false), (1, 6, false, false), (1, 6, false, false), (0, 0, false, false), (1, 6, false, false), (1, 6, false, false), (1, 6, false, false), (1, 6, false, false), (1, 6, false, false), (1, 6, false, false), (1, 6, false, false), (0, 0, false, false), (1, 6, false, false), (1, 6, false, false), (1, 6, false, false), (1, 6, false, false), (1, 6, false, false), (1, 6, false, false), (1, 6, false, false), (1, 6, false, false), (1, 6, false, false), (0, 0, false, false), (0, 0, false, false), (1, 6, false, false), (1, 6, false, false), (1, 6, false, false), (1, 6, false, false), (0, 0, false, false), (0, 0, false, false), (0, 0, false, false), (0, 0, false, false), (0, 0, false, false), (0, 0, false, false), (0, 0, false, false), (0, 0, false, false), (0, 0, false, false), (0, 0, false, false), (0, 0, false, false), (0, 0, false, false), (0, 0, false, false), (0, 0, false, false), (31, 14526, true, true), (0, 0, false, false), (0, 0, false, false), (0, 0, false, false), (0, 0, false, false), (0, 0, false, false), (0, 0, false, false), (0, 0, false, false), (0, 0, false, false), (0, 0, false, false), (0, 0, false, false), (0, 0, false, false), (0, 0, false, false), (0, 0, false, false), (0, 0, false, false), (0, 0, false, false), (0, 0, false, false), (0, 0, false, false), (0, 0, false, false), (0, 0, false, false), (0, 0, false, false), (0, 0, false, false), (0, 0, false, false), (0, 0, false, false), (0, 0, false, false), (0, 0, false, false), (0, 0, false, false), (0, 0, false, false), (0, 0, false, false), (0, 0, false, false), (0, 0, false, false), (0, 0, false, false), (0, 0, false, false), (0, 0, false, false), (0, 0, false, false), (0, 0, false, false), (0, 0, false, false), (0, 0, false, false), (0, 0, false, false), (0, 0, false, false), (0, 0, false, false), (0, 0, false, false), (0, 0, false, false), (0, 0, false, false), (0, 0, false, false), (0, 0, false, false), (0, 0, false, false), (0, 0, false, false), (0, 0, false, false), (0, 0, false, false), (0, 0, false, false), (0, 0, false, false), (0, 0, false, false), (0, 0, false, false), (0, 0, false, false), (0, 0, false, false), (0, 0, false, false), (0, 0, false, false), (0, 0, false, false), (0, 0, false, false), (0, 0, false, false), (0, 0, false, false), (0, 0, false, false), (0, 0, false, false), (0, 0, false, false), (0, 0, false, false), (0, 0, false, false), (0, 0, false, false), (0, 0, false, false), (0, 0, false, false), (0, 0, false, false), (0, 0, false, false), (0, 0, false, false), (0, 0, false, false), (0, 0, false, false), (0, 0, false, false), (0, 0, false, false), (0, 0, false, false), (0, 0, false, false), (0, 0, false, false), (0, 0, false, false), (0, 0, false, false), (0, 0, false, false), (0, 0, false, false), (0, 0, false, false), (0, 0, false, false), (0, 0, false, false), (0, 0, false, false), (0, 0, false, false), (0, 0, false, false), (0, 0, false, false), (0, 0, false, false), (0, 0, false, false), (0, 0, false, false), (0, 0, false, false), (0, 0, false, false), (0, 0, false, false), (0, 0, false, false), (0, 0, false, false), (0, 0, false, false), (0, 0, false, false), (0, 0, false, false), (0, 0, false, false), (0, 0, false, false), (0, 0, false, false), (0, 0, false, false), (0, 0, false, false), (0, 0, false, false), (0, 0, false, false), (0, 0, false, false), (0, 0, false, false), (0, 0, false, false), (0, 0, false, false), (0, 0, false, false), (0, 0, false, false), (0, 0, false, false), (0, 0, false, false), (0, 0, false, false), (0, 0, false, false), (0, 0, false, false), (0, 0, false, false), (1, 6, false, true), (1, 6, false, true), (1, 6, false, true), (1, 6, false, true), (1, 6, false, true), (1, 6, false, true), (1, 6, false, true), (1, 6, false, true), (1, 6, false, true), (1, 6, false, true), (1, 6, false, true), (1, 6, false, true), (1, 6, false, true), (1, 6, false, true), (1, 6, false, true), (1, 6, false, true), (1, 6, false, true), (1, 6, false, true), (1, 6, false, true), (1, 6, false, true), (1, 6, false, true), (1, 6, false, true), (1, 6, false, true), (1, 6, false, true), (1, 6, false, true), (1, 6, false, true), (1, 6, false, true), (1, 6, false, true)]
def cost (j : Nat) : Nat × Nat × Bool × Bool := costs.getD j (0, 0, false, false)
noncomputable def mtab : List (Option (pC × Nat)) := [some (C_X0_init, 1), some (C_X0_clearActs, 1), some (C_X0_clearNotes, 1), some (C_X0_keep, 2), some (C_X0_takeBack, 2), some (C_X0_add, 4), some (C_X0_copyFrom, 2), some (C_X0_agrees, 4), some (C_X1_init, 1), some (C_X1_search, 7), some (C_X1_holdsAll, 6), some (C_X1_addPlaces, 4), some (C_X2_init, 1), some (C_X2_passHours, 5), some (C_X2_passHour, 5), some (C_X2_hurt, 5), some (C_X2_wantsToGo, 4), some (C_X2_go, 5), some (C_X2_setValues, 4), some (C_X3_init, 1), some (C_X3_clear, 1), some (C_X3_cells, 1), some (C_X3_lightOf, 2), some (C_X3_isDull, 2), some (C_X3_stepOf, 4), some (C_X3_seatsAt, 4), some (C_X3_isWall, 2), some (C_X3_isStart, 3), some (C_X3_beside, 4), some (C_X4_init, 1), some (C_X4_read, 6), some (C_X4_readTable, 4), some (C_X4_readStop, 1), some (C_X4_readLine, 3), some (C_X4_cellFault, 3), some (C_X4_readWall, 3), some (C_X4_readFigure, 5), some (C_X4_readSeat, 3), some (C_X4_readLight, 4), some (C_X4_readRow, 6), some (C_X4_readDull, 3), some (C_X5_init, 1), some (C_X5_clear, 1), some (C_X5_isTold, 1), some (C_X5_add, 2), some (C_X5_value, 5), some (C_X5_join, 3), some (C_X6_init, 1), some (C_X6_read, 6), some (C_X6_isEnd, 2), some (C_X6_beginPart, 2), some (C_X6_readPart, 5), some (C_X6_readNumber, 4), some (C_X6_readWord, 4), some (C_X6_valueOf, 2), some (C_X6_readOperator, 6), some (C_X6_operatorOf, 1), some (C_X6_rankOf, 1), some (C_X6_push, 2), some (C_X6_release, 3), some (C_X7_init, 1), some (C_X7_place, 6), some (C_X7_measureAll, 6), some (C_X7_bestFrom, 6), some (C_X7_worthAt, 5), some (C_X7_choose, 5), some (C_X8_init, 1), some (C_X8_begin, 2), some (C_X8_copyFrom, 2), some (C_X8_saveTo, 3), some (C_X8_loadFrom, 3), some (C_X8_isWall, 2), some (C_X8_figuresAt, 4), some (C_X8_othersWith, 4), some (C_X8_aloneBits, 3), some (C_X8_placedAsBits, 4), some (C_X8_isPlacedAs, 2), some (C_X8_places, 4), some (C_X8_soreOfAll, 3), some (C_X8_heldBits, 3), some (C_X9_init, 1), some (C_X9_add, 3), some (C_X9_begin, 2), some (C_X9_advance, 2), some (C_X9_readNumber, 1), some (C_X9_isLetter, 1), some (C_X9_isDigit, 1), some (C_X9_numberFault, 3), some (C_X9_isSign, 2), some (C_X9_sign, 1), some (C_X9_isWord, 3), some (C_X10_init, 1), some (C_X10_measure, 9), some (C_X10_firstStep, 7), some (C_X10_parts, 8), some (C_X10_seenFrom, 8), some (C_X11_init, 1), some (C_X11_feed, 6), some (C_X11_town, 4), some (C_X11_fault, 1), some (C_X11_count, 2), some (C_X11_figure, 3), some (C_X11_cell, 3), some (C_X11_hours, 2), some (C_X11_stop, 3), some (C_X11_lift, 4), some (C_X11_brush, 3), some (C_X11_wall, 3), some (C_X11_undo, 1), some (C_X11_then, 4), some (C_X11_comes, 4), some (C_X11_meet, 4), some (C_X11_crowd, 7), some (C_X11_round, 2), some (C_X11_spread, 6), some (C_X11_way, 4), some (C_X11_toStop, 5), some (C_X11_toThin, 4), some (C_X11_seats, 2), some (C_X11_seat, 2), some (C_X11_note, 4), some (C_X11_forget, 1), some (C_X11_ahead, 2), some (C_X11_look, 6), some (C_X11_clouds, 10), some (C_X11_game, 7), some (C_X11_years, 6), some (C_X11_later, 3), some (C_X11_together, 6), some (C_X11_quiet, 5), some (C_X11_gone, 6), some (C_X11_image, 1), some (C_X11_restore, 1), some (C_X11_checkFigure, 2), some (C_X11_checkCell, 2), some (C_X11_checkWhat, 2), some (C_X11_checkHours, 3), some (C_X11_refuseAct, 1), some (C_X11_pay, 2), some (C_X11_foresee, 2), some (C_X11_passFuture, 1), some (C_X11_addMeetings, 2), some (C_X11_noneMeets, 3), some (C_X11_play, 7), some (C_X11_rests, 3), some (C_X11_draw, 2), some (C_X11_drawFate, 4), some (C_X11_busiest, 5), some (C_X11_sorest, 5), some (C_X11_alone, 4), some (C_X11_stuck, 4), some (C_X12_init, 1), some (C_X12_thrown, 1), some (C_X12_right, 3), some (C_X12_within, 3), some (C_X12_bounded, 3), some (C_X12_lesser, 2), some (C_X12_copies, 4), some (C_X12_bits, 3), some (C_X12_feed, 6), some (C_X12_lays, 3), some (C_X12_byteAt, 2), some (C_X12_isLetter, 1), some (C_X12_isDigit, 1), some (C_X12_goes, 2), some (C_X12_spelled, 8), some (C_X12_letters, 1), some (C_X12_knownWord, 2), some (C_X12_wrong, 2), some (C_X12_isGood, 1), some (C_X12_isSign, 2), some (C_X12_need, 2), some (C_X12_number, 4), some (C_X12_cellHere, 1), some (C_X12_puts, 2), some (C_X12_isOpen, 1), some (C_X12_strength, 1), some (C_X12_drops, 2), some (C_X12_waitsFor, 2), some (C_X12_part, 2), some (C_X12_deeper, 1), some (C_X12_operand, 5), some (C_X12_isOpened, 2), some (C_X12_closes, 1), some (C_X12_expression, 5), some (C_X12_begins, 3), some (C_X12_readsWall, 3), some (C_X12_readsFigure, 5), some (C_X12_readsSeat, 1), some (C_X12_readsLight, 3), some (C_X12_line, 2), some (C_X12_town, 3), some (C_X12_fault, 1), some (C_X12_keeps, 2), some (C_X12_refuses, 2), some (C_X12_undo, 2), some (C_X12_tries, 2), some (C_X12_works, 3), some (C_X12_reckons, 5), some (C_X12_lightAt, 2), some (C_X12_isDull, 2), some (C_X12_atCell, 5), some (C_X12_withIt, 3), some (C_X12_stepOf, 3), some (C_X12_tells, 3), some (C_X12_hurtsBy, 3), some (C_X12_isGoing, 3), some (C_X12_beside, 3), some (C_X12_figureGoes, 4), some (C_X12_hourGoes, 3), some (C_X12_hoursGo, 3), some (C_X12_sumOf, 6), some (C_X12_heldOnes, 3), some (C_X12_laysFar, 7), some (C_X12_parts, 5), some (C_X12_count, 2), some (C_X12_isFigure, 2), some (C_X12_isCell, 2), some (C_X12_isWhat, 3), some (C_X12_isSoon, 4), some (C_X12_figure, 3), some (C_X12_seenFrom, 5), some (C_X12_cell, 5), some (C_X12_hours, 3), some (C_X12_stop, 3), some (C_X12_lift, 4), some (C_X12_brush, 3), some (C_X12_wall, 5), some (C_X12_goesTo, 2), some (C_X12_then, 4), some (C_X12_comes, 4), some (C_X12_meet, 4), some (C_X12_mostOften, 3), some (C_X12_clears, 2), some (C_X12_marks, 2), some (C_X12_crowd, 4), some (C_X12_areAsNow, 3), some (C_X12_round, 2), some (C_X12_spread, 5), some (C_X12_later, 7), some (C_X12_together, 6), some (C_X12_quiet, 5), some (C_X12_gone, 6), some (C_X12_way, 7), some (C_X12_toStop, 5), some (C_X12_toThin, 6), some (C_X12_sits, 4), some (C_X12_canSit, 4), some (C_X12_laysSeats, 5), some (C_X12_seats, 2), some (C_X12_seat, 6), some (C_X12_note, 4), some (C_X12_forget, 1), some (C_X12_isNoted, 3), some (C_X12_isGuess, 3), some (C_X12_ahead, 5), some (C_X12_look, 10), some (C_X12_clouds, 9), some (C_X12_gains, 7), some (C_X12_game, 9), some (C_X12_draw, 2), some (C_X12_happens, 4), some (C_X12_years, 8), some (C_X12_image, 2), some (C_X12_restore, 2), some (C_J6_bitCount_0f7a4, 1), some (C_J13_bitCount_95d88, 2), some (C_J7_fill_d0a16, 5), some (C_J7_fill_53178, 4), none, none, none, some (C_L_town, 4), some (C_L_count, 4), some (C_L_figure, 5), some (C_L_cell, 5), some (C_L_stop, 5), some (C_L_lift, 5), some (C_L_brush, 4), some (C_L_wall, 5), some (C_L_then, 6), some (C_L_comes, 5), some (C_L_meet, 5), some (C_L_crowd, 5), some (C_L_spread, 5), some (C_L_way, 6), some (C_L_toStop, 6), some (C_L_toThin, 4), some (C_L_seats, 4), some (C_L_seat, 4), some (C_L_note, 6), some (C_L_ahead, 4), some (C_L_look, 4), some (C_L_clouds, 7), some (C_L_game, 6), some (C_L_years, 6), some (C_L_later, 5), some (C_L_together, 6), some (C_L_quiet, 5), some (C_L_gone, 5)]
noncomputable def M (j : Nat) : Option (pC × Nat) := (mtab[j]?).join
def okMj (l : Launch) (n0 : Nat) (sa sv : Nat → Nat) (j : Nat) : Prop := ∀ C nL, M j = some (C, nL) → nL = (Y j).2.2.1 ∧ plainName (Y j).1.cls = true ∧ (Y j).2.2.2 = pc_rt C ∧ (pc_ini C = true → (Y j).1.name = "<init>") ∧ ∀ s args, (∀ w ∈ pm_ws Y TW j, w.before args s = true) → GG n0 sa sv s → pm_T l s args n0 sa C (Y j).2.1 (Y j).1.cls (pm_ws Y TW j) TW Y
def okHj (n0 : Nat) (sa sv : Nat → Nat) (j : Nat) : Prop := ∀ C nL, M j = some (C, nL) → (∀ s args (c : Code), (∀ w ∈ pm_ws Y TW j, w.before args s = true) → GG n0 sa sv s → c.exceptionTable.toList = tableOf (pm_hh j) → ∀ pc E, pm_okH c (Y j).2.1 (Y j).2.2.1 (Y j).1.cls args s pc E (pc_hd C pc E)) ∧ (pm_hh j ≠ [] → ∀ pc, pc_th C pc = none)
section
variable {l : Launch} (hl : l.stackTraces = false) (n0 : Nat) (sa sv : Nat → Nat)
theorem ok_0 (hl : l.stackTraces = false) : okMj l n0 sa sv 0 ∧ okHj n0 sa sv 0 := by
  refine ⟨fun C nL h => ?_, fun C nL h => ?_⟩
  · obtain ⟨rfl, rfl⟩ : C_X0_init = C ∧ 1 = nL := Prod.mk.injEq _ _ _ _ ▸ Option.some.inj h
    exact ⟨rfl, plain_ok (by decide), rfl, fun _ => rfl, fun s args h1 h2 => pm_T_of hl cl_all ar_all ik_X0_init ck_X0_init s args h2 (fun L xs h => by cases h)⟩
  · obtain ⟨rfl, rfl⟩ : C_X0_init = C ∧ 1 = nL := Prod.mk.injEq _ _ _ _ ▸ Option.some.inj h
    exact ⟨fun s args c h1 h2 h3 => hd_0_ok h3, fun h => (h rfl).elim⟩
theorem ok_1 (hl : l.stackTraces = false) : okMj l n0 sa sv 1 ∧ okHj n0 sa sv 1 := by
  refine ⟨fun C nL h => ?_, fun C nL h => ?_⟩
  · obtain ⟨rfl, rfl⟩ : C_X0_clearActs = C ∧ 1 = nL := Prod.mk.injEq _ _ _ _ ▸ Option.some.inj h
    exact ⟨rfl, plain_ok (by decide), rfl, (fun h => by cases h), fun s args h1 h2 => pm_T_of hl cl_all ar_all ik_X0_clearActs ck_X0_clearActs s args h2 (fun L xs h => by cases h)⟩
  · obtain ⟨rfl, rfl⟩ : C_X0_clearActs = C ∧ 1 = nL := Prod.mk.injEq _ _ _ _ ▸ Option.some.inj h
    exact ⟨fun s args c h1 h2 h3 => hd_0_ok h3, fun h => (h rfl).elim⟩
theorem ok_2 (hl : l.stackTraces = false) : okMj l n0 sa sv 2 ∧ okHj n0 sa sv 2 := by
  refine ⟨fun C nL h => ?_, fun C nL h => ?_⟩
  · obtain ⟨rfl, rfl⟩ : C_X0_clearNotes = C ∧ 1 = nL := Prod.mk.injEq _ _ _ _ ▸ Option.some.inj h
    exact ⟨rfl, plain_ok (by decide), rfl, (fun h => by cases h), fun s args h1 h2 => pm_T_of hl cl_all ar_all ik_X0_clearNotes ck_X0_clearNotes s args h2 (fun L xs h => by cases h)⟩
  · obtain ⟨rfl, rfl⟩ : C_X0_clearNotes = C ∧ 1 = nL := Prod.mk.injEq _ _ _ _ ▸ Option.some.inj h
    exact ⟨fun s args c h1 h2 h3 => hd_0_ok h3, fun h => (h rfl).elim⟩
theorem ok_3 (hl : l.stackTraces = false) : okMj l n0 sa sv 3 ∧ okHj n0 sa sv 3 := by
  refine ⟨fun C nL h => ?_, fun C nL h => ?_⟩
  · obtain ⟨rfl, rfl⟩ : C_X0_keep = C ∧ 2 = nL := Prod.mk.injEq _ _ _ _ ▸ Option.some.inj h
    exact ⟨rfl, plain_ok (by decide), rfl, (fun h => by cases h), fun s args h1 h2 => pm_T_of hl cl_all ar_all ik_X0_keep ck_X0_keep s args h2 (fun L xs h => by cases h)⟩
  · obtain ⟨rfl, rfl⟩ : C_X0_keep = C ∧ 2 = nL := Prod.mk.injEq _ _ _ _ ▸ Option.some.inj h
    exact ⟨fun s args c h1 h2 h3 => hd_0_ok h3, fun h => (h rfl).elim⟩
theorem ok_4 (hl : l.stackTraces = false) : okMj l n0 sa sv 4 ∧ okHj n0 sa sv 4 := by
  refine ⟨fun C nL h => ?_, fun C nL h => ?_⟩
  · obtain ⟨rfl, rfl⟩ : C_X0_takeBack = C ∧ 2 = nL := Prod.mk.injEq _ _ _ _ ▸ Option.some.inj h
    exact ⟨rfl, plain_ok (by decide), rfl, (fun h => by cases h), fun s args h1 h2 => pm_T_of hl cl_all ar_all ik_X0_takeBack ck_X0_takeBack s args h2 (fun L xs h => by cases h)⟩
  · obtain ⟨rfl, rfl⟩ : C_X0_takeBack = C ∧ 2 = nL := Prod.mk.injEq _ _ _ _ ▸ Option.some.inj h
    exact ⟨fun s args c h1 h2 h3 => hd_0_ok h3, fun h => (h rfl).elim⟩
theorem ok_5 (hl : l.stackTraces = false) : okMj l n0 sa sv 5 ∧ okHj n0 sa sv 5 := by
  refine ⟨fun C nL h => ?_, fun C nL h => ?_⟩
  · obtain ⟨rfl, rfl⟩ : C_X0_add = C ∧ 4 = nL := Prod.mk.injEq _ _ _ _ ▸ Option.some.inj h
    exact ⟨rfl, plain_ok (by decide), rfl, (fun h => by cases h), fun s args h1 h2 => pm_T_of hl cl_all ar_all ik_X0_add ck_X0_add s args h2 (fun L xs h => by cases h)⟩
  · obtain ⟨rfl, rfl⟩ : C_X0_add = C ∧ 4 = nL := Prod.mk.injEq _ _ _ _ ▸ Option.some.inj h
    exact ⟨fun s args c h1 h2 h3 => hd_0_ok h3, fun h => (h rfl).elim⟩
theorem ok_6 (hl : l.stackTraces = false) : okMj l n0 sa sv 6 ∧ okHj n0 sa sv 6 := by
  refine ⟨fun C nL h => ?_, fun C nL h => ?_⟩
  · obtain ⟨rfl, rfl⟩ : C_X0_copyFrom = C ∧ 2 = nL := Prod.mk.injEq _ _ _ _ ▸ Option.some.inj h
    exact ⟨rfl, plain_ok (by decide), rfl, (fun h => by cases h), fun s args h1 h2 => pm_T_of hl cl_all ar_all ik_X0_copyFrom ck_X0_copyFrom s args h2 (fun L xs h => by cases h)⟩
  · obtain ⟨rfl, rfl⟩ : C_X0_copyFrom = C ∧ 2 = nL := Prod.mk.injEq _ _ _ _ ▸ Option.some.inj h
    exact ⟨fun s args c h1 h2 h3 => hd_0_ok h3, fun h => (h rfl).elim⟩
theorem ok_7 (hl : l.stackTraces = false) : okMj l n0 sa sv 7 ∧ okHj n0 sa sv 7 := by
  refine ⟨fun C nL h => ?_, fun C nL h => ?_⟩
  · obtain ⟨rfl, rfl⟩ : C_X0_agrees = C ∧ 4 = nL := Prod.mk.injEq _ _ _ _ ▸ Option.some.inj h
    exact ⟨rfl, plain_ok (by decide), rfl, (fun h => by cases h), fun s args h1 h2 => pm_T_of hl cl_all ar_all ik_X0_agrees ck_X0_agrees s args h2 (fun L xs h => by cases h)⟩
  · obtain ⟨rfl, rfl⟩ : C_X0_agrees = C ∧ 4 = nL := Prod.mk.injEq _ _ _ _ ▸ Option.some.inj h
    exact ⟨fun s args c h1 h2 h3 => hd_0_ok h3, fun h => (h rfl).elim⟩
theorem ok_8 (hl : l.stackTraces = false) : okMj l n0 sa sv 8 ∧ okHj n0 sa sv 8 := by
  refine ⟨fun C nL h => ?_, fun C nL h => ?_⟩
  · obtain ⟨rfl, rfl⟩ : C_X1_init = C ∧ 1 = nL := Prod.mk.injEq _ _ _ _ ▸ Option.some.inj h
    exact ⟨rfl, plain_ok (by decide), rfl, fun _ => rfl, fun s args h1 h2 => pm_T_of hl cl_all ar_all ik_X1_init ck_X1_init s args h2 (fun L xs h => by cases h)⟩
  · obtain ⟨rfl, rfl⟩ : C_X1_init = C ∧ 1 = nL := Prod.mk.injEq _ _ _ _ ▸ Option.some.inj h
    exact ⟨fun s args c h1 h2 h3 => hd_0_ok h3, fun h => (h rfl).elim⟩
theorem ok_9 (hl : l.stackTraces = false) : okMj l n0 sa sv 9 ∧ okHj n0 sa sv 9 := by
  refine ⟨fun C nL h => ?_, fun C nL h => ?_⟩
  · obtain ⟨rfl, rfl⟩ : C_X1_search = C ∧ 7 = nL := Prod.mk.injEq _ _ _ _ ▸ Option.some.inj h
    exact ⟨rfl, plain_ok (by decide), rfl, (fun h => by cases h), fun s args h1 h2 => pm_T_of hl cl_all ar_all ik_X1_search ck_X1_search s args h2 (fun L xs h => by cases h)⟩
  · obtain ⟨rfl, rfl⟩ : C_X1_search = C ∧ 7 = nL := Prod.mk.injEq _ _ _ _ ▸ Option.some.inj h
    exact ⟨fun s args c h1 h2 h3 => hd_0_ok h3, fun h => (h rfl).elim⟩
theorem ok_10 (hl : l.stackTraces = false) : okMj l n0 sa sv 10 ∧ okHj n0 sa sv 10 := by
  refine ⟨fun C nL h => ?_, fun C nL h => ?_⟩
  · obtain ⟨rfl, rfl⟩ : C_X1_holdsAll = C ∧ 6 = nL := Prod.mk.injEq _ _ _ _ ▸ Option.some.inj h
    exact ⟨rfl, plain_ok (by decide), rfl, (fun h => by cases h), fun s args h1 h2 => pm_T_of hl cl_all ar_all ik_X1_holdsAll ck_X1_holdsAll s args h2 (fun L xs h => by cases h)⟩
  · obtain ⟨rfl, rfl⟩ : C_X1_holdsAll = C ∧ 6 = nL := Prod.mk.injEq _ _ _ _ ▸ Option.some.inj h
    exact ⟨fun s args c h1 h2 h3 => hd_0_ok h3, fun h => (h rfl).elim⟩
theorem ok_11 (hl : l.stackTraces = false) : okMj l n0 sa sv 11 ∧ okHj n0 sa sv 11 := by
  refine ⟨fun C nL h => ?_, fun C nL h => ?_⟩
  · obtain ⟨rfl, rfl⟩ : C_X1_addPlaces = C ∧ 4 = nL := Prod.mk.injEq _ _ _ _ ▸ Option.some.inj h
    exact ⟨rfl, plain_ok (by decide), rfl, (fun h => by cases h), fun s args h1 h2 => pm_T_of hl cl_all ar_all ik_X1_addPlaces ck_X1_addPlaces s args h2 (fun L xs h => by cases h)⟩
  · obtain ⟨rfl, rfl⟩ : C_X1_addPlaces = C ∧ 4 = nL := Prod.mk.injEq _ _ _ _ ▸ Option.some.inj h
    exact ⟨fun s args c h1 h2 h3 => hd_0_ok h3, fun h => (h rfl).elim⟩
theorem ok_12 (hl : l.stackTraces = false) : okMj l n0 sa sv 12 ∧ okHj n0 sa sv 12 := by
  refine ⟨fun C nL h => ?_, fun C nL h => ?_⟩
  · obtain ⟨rfl, rfl⟩ : C_X2_init = C ∧ 1 = nL := Prod.mk.injEq _ _ _ _ ▸ Option.some.inj h
    exact ⟨rfl, plain_ok (by decide), rfl, fun _ => rfl, fun s args h1 h2 => pm_T_of hl cl_all ar_all ik_X2_init ck_X2_init s args h2 (fun L xs h => by cases h)⟩
  · obtain ⟨rfl, rfl⟩ : C_X2_init = C ∧ 1 = nL := Prod.mk.injEq _ _ _ _ ▸ Option.some.inj h
    exact ⟨fun s args c h1 h2 h3 => hd_0_ok h3, fun h => (h rfl).elim⟩
theorem ok_13 (hl : l.stackTraces = false) : okMj l n0 sa sv 13 ∧ okHj n0 sa sv 13 := by
  refine ⟨fun C nL h => ?_, fun C nL h => ?_⟩
  · obtain ⟨rfl, rfl⟩ : C_X2_passHours = C ∧ 5 = nL := Prod.mk.injEq _ _ _ _ ▸ Option.some.inj h
    exact ⟨rfl, plain_ok (by decide), rfl, (fun h => by cases h), fun s args h1 h2 => pm_T_of hl cl_all ar_all ik_X2_passHours ck_X2_passHours s args h2 (fun L xs h => by cases h)⟩
  · obtain ⟨rfl, rfl⟩ : C_X2_passHours = C ∧ 5 = nL := Prod.mk.injEq _ _ _ _ ▸ Option.some.inj h
    exact ⟨fun s args c h1 h2 h3 => hd_0_ok h3, fun h => (h rfl).elim⟩
theorem ok_14 (hl : l.stackTraces = false) : okMj l n0 sa sv 14 ∧ okHj n0 sa sv 14 := by
  refine ⟨fun C nL h => ?_, fun C nL h => ?_⟩
  · obtain ⟨rfl, rfl⟩ : C_X2_passHour = C ∧ 5 = nL := Prod.mk.injEq _ _ _ _ ▸ Option.some.inj h
    exact ⟨rfl, plain_ok (by decide), rfl, (fun h => by cases h), fun s args h1 h2 => pm_T_of hl cl_all ar_all ik_X2_passHour ck_X2_passHour s args h2 (fun L xs h => by cases h)⟩
  · obtain ⟨rfl, rfl⟩ : C_X2_passHour = C ∧ 5 = nL := Prod.mk.injEq _ _ _ _ ▸ Option.some.inj h
    exact ⟨fun s args c h1 h2 h3 => hd_0_ok h3, fun h => (h rfl).elim⟩
theorem ok_15 (hl : l.stackTraces = false) : okMj l n0 sa sv 15 ∧ okHj n0 sa sv 15 := by
  refine ⟨fun C nL h => ?_, fun C nL h => ?_⟩
  · obtain ⟨rfl, rfl⟩ : C_X2_hurt = C ∧ 5 = nL := Prod.mk.injEq _ _ _ _ ▸ Option.some.inj h
    exact ⟨rfl, plain_ok (by decide), rfl, (fun h => by cases h), fun s args h1 h2 => pm_T_of hl cl_all ar_all ik_X2_hurt ck_X2_hurt s args h2 (fun L xs h => by cases h)⟩
  · obtain ⟨rfl, rfl⟩ : C_X2_hurt = C ∧ 5 = nL := Prod.mk.injEq _ _ _ _ ▸ Option.some.inj h
    exact ⟨fun s args c h1 h2 h3 => hd_0_ok h3, fun h => (h rfl).elim⟩
theorem ok_16 (hl : l.stackTraces = false) : okMj l n0 sa sv 16 ∧ okHj n0 sa sv 16 := by
  refine ⟨fun C nL h => ?_, fun C nL h => ?_⟩
  · obtain ⟨rfl, rfl⟩ : C_X2_wantsToGo = C ∧ 4 = nL := Prod.mk.injEq _ _ _ _ ▸ Option.some.inj h
    exact ⟨rfl, plain_ok (by decide), rfl, (fun h => by cases h), fun s args h1 h2 => pm_T_of hl cl_all ar_all ik_X2_wantsToGo ck_X2_wantsToGo s args h2 (fun L xs h => by cases h)⟩
  · obtain ⟨rfl, rfl⟩ : C_X2_wantsToGo = C ∧ 4 = nL := Prod.mk.injEq _ _ _ _ ▸ Option.some.inj h
    exact ⟨fun s args c h1 h2 h3 => hd_0_ok h3, fun h => (h rfl).elim⟩
theorem ok_17 (hl : l.stackTraces = false) : okMj l n0 sa sv 17 ∧ okHj n0 sa sv 17 := by
  refine ⟨fun C nL h => ?_, fun C nL h => ?_⟩
  · obtain ⟨rfl, rfl⟩ : C_X2_go = C ∧ 5 = nL := Prod.mk.injEq _ _ _ _ ▸ Option.some.inj h
    exact ⟨rfl, plain_ok (by decide), rfl, (fun h => by cases h), fun s args h1 h2 => pm_T_of hl cl_all ar_all ik_X2_go ck_X2_go s args h2 (fun L xs h => by cases h)⟩
  · obtain ⟨rfl, rfl⟩ : C_X2_go = C ∧ 5 = nL := Prod.mk.injEq _ _ _ _ ▸ Option.some.inj h
    exact ⟨fun s args c h1 h2 h3 => hd_0_ok h3, fun h => (h rfl).elim⟩
theorem ok_18 (hl : l.stackTraces = false) : okMj l n0 sa sv 18 ∧ okHj n0 sa sv 18 := by
  refine ⟨fun C nL h => ?_, fun C nL h => ?_⟩
  · obtain ⟨rfl, rfl⟩ : C_X2_setValues = C ∧ 4 = nL := Prod.mk.injEq _ _ _ _ ▸ Option.some.inj h
    exact ⟨rfl, plain_ok (by decide), rfl, (fun h => by cases h), fun s args h1 h2 => pm_T_of hl cl_all ar_all ik_X2_setValues ck_X2_setValues s args h2 (fun L xs h => by cases h)⟩
  · obtain ⟨rfl, rfl⟩ : C_X2_setValues = C ∧ 4 = nL := Prod.mk.injEq _ _ _ _ ▸ Option.some.inj h
    exact ⟨fun s args c h1 h2 h3 => hd_0_ok h3, fun h => (h rfl).elim⟩
theorem ok_19 (hl : l.stackTraces = false) : okMj l n0 sa sv 19 ∧ okHj n0 sa sv 19 := by
  refine ⟨fun C nL h => ?_, fun C nL h => ?_⟩
  · obtain ⟨rfl, rfl⟩ : C_X3_init = C ∧ 1 = nL := Prod.mk.injEq _ _ _ _ ▸ Option.some.inj h
    exact ⟨rfl, plain_ok (by decide), rfl, fun _ => rfl, fun s args h1 h2 => pm_T_of hl cl_all ar_all ik_X3_init ck_X3_init s args h2 (fun L xs h => by cases h)⟩
  · obtain ⟨rfl, rfl⟩ : C_X3_init = C ∧ 1 = nL := Prod.mk.injEq _ _ _ _ ▸ Option.some.inj h
    exact ⟨fun s args c h1 h2 h3 => hd_0_ok h3, fun h => (h rfl).elim⟩
theorem ok_20 (hl : l.stackTraces = false) : okMj l n0 sa sv 20 ∧ okHj n0 sa sv 20 := by
  refine ⟨fun C nL h => ?_, fun C nL h => ?_⟩
  · obtain ⟨rfl, rfl⟩ : C_X3_clear = C ∧ 1 = nL := Prod.mk.injEq _ _ _ _ ▸ Option.some.inj h
    exact ⟨rfl, plain_ok (by decide), rfl, (fun h => by cases h), fun s args h1 h2 => pm_T_of hl cl_all ar_all ik_X3_clear ck_X3_clear s args h2 (fun L xs h => by cases h)⟩
  · obtain ⟨rfl, rfl⟩ : C_X3_clear = C ∧ 1 = nL := Prod.mk.injEq _ _ _ _ ▸ Option.some.inj h
    exact ⟨fun s args c h1 h2 h3 => hd_0_ok h3, fun h => (h rfl).elim⟩
theorem ok_21 (hl : l.stackTraces = false) : okMj l n0 sa sv 21 ∧ okHj n0 sa sv 21 := by
  refine ⟨fun C nL h => ?_, fun C nL h => ?_⟩
  · obtain ⟨rfl, rfl⟩ : C_X3_cells = C ∧ 1 = nL := Prod.mk.injEq _ _ _ _ ▸ Option.some.inj h
    exact ⟨rfl, plain_ok (by decide), rfl, (fun h => by cases h), fun s args h1 h2 => pm_T_of hl cl_all ar_all ik_X3_cells ck_X3_cells s args h2 (fun L xs h => by cases h)⟩
  · obtain ⟨rfl, rfl⟩ : C_X3_cells = C ∧ 1 = nL := Prod.mk.injEq _ _ _ _ ▸ Option.some.inj h
    exact ⟨fun s args c h1 h2 h3 => hd_0_ok h3, fun h => (h rfl).elim⟩
theorem ok_22 (hl : l.stackTraces = false) : okMj l n0 sa sv 22 ∧ okHj n0 sa sv 22 := by
  refine ⟨fun C nL h => ?_, fun C nL h => ?_⟩
  · obtain ⟨rfl, rfl⟩ : C_X3_lightOf = C ∧ 2 = nL := Prod.mk.injEq _ _ _ _ ▸ Option.some.inj h
    exact ⟨rfl, plain_ok (by decide), rfl, (fun h => by cases h), fun s args h1 h2 => pm_T_of hl cl_all ar_all ik_X3_lightOf ck_X3_lightOf s args h2 (fun L xs h => by cases h)⟩
  · obtain ⟨rfl, rfl⟩ : C_X3_lightOf = C ∧ 2 = nL := Prod.mk.injEq _ _ _ _ ▸ Option.some.inj h
    exact ⟨fun s args c h1 h2 h3 => hd_0_ok h3, fun h => (h rfl).elim⟩
theorem ok_23 (hl : l.stackTraces = false) : okMj l n0 sa sv 23 ∧ okHj n0 sa sv 23 := by
  refine ⟨fun C nL h => ?_, fun C nL h => ?_⟩
  · obtain ⟨rfl, rfl⟩ : C_X3_isDull = C ∧ 2 = nL := Prod.mk.injEq _ _ _ _ ▸ Option.some.inj h
    exact ⟨rfl, plain_ok (by decide), rfl, (fun h => by cases h), fun s args h1 h2 => pm_T_of hl cl_all ar_all ik_X3_isDull ck_X3_isDull s args h2 (fun L xs h => by cases h)⟩
  · obtain ⟨rfl, rfl⟩ : C_X3_isDull = C ∧ 2 = nL := Prod.mk.injEq _ _ _ _ ▸ Option.some.inj h
    exact ⟨fun s args c h1 h2 h3 => hd_0_ok h3, fun h => (h rfl).elim⟩
theorem ok_24 (hl : l.stackTraces = false) : okMj l n0 sa sv 24 ∧ okHj n0 sa sv 24 := by
  refine ⟨fun C nL h => ?_, fun C nL h => ?_⟩
  · obtain ⟨rfl, rfl⟩ : C_X3_stepOf = C ∧ 4 = nL := Prod.mk.injEq _ _ _ _ ▸ Option.some.inj h
    exact ⟨rfl, plain_ok (by decide), rfl, (fun h => by cases h), fun s args h1 h2 => pm_T_of hl cl_all ar_all ik_X3_stepOf ck_X3_stepOf s args h2 (fun L xs h => by cases h)⟩
  · obtain ⟨rfl, rfl⟩ : C_X3_stepOf = C ∧ 4 = nL := Prod.mk.injEq _ _ _ _ ▸ Option.some.inj h
    exact ⟨fun s args c h1 h2 h3 => hd_0_ok h3, fun h => (h rfl).elim⟩
theorem ok_25 (hl : l.stackTraces = false) : okMj l n0 sa sv 25 ∧ okHj n0 sa sv 25 := by
  refine ⟨fun C nL h => ?_, fun C nL h => ?_⟩
  · obtain ⟨rfl, rfl⟩ : C_X3_seatsAt = C ∧ 4 = nL := Prod.mk.injEq _ _ _ _ ▸ Option.some.inj h
    exact ⟨rfl, plain_ok (by decide), rfl, (fun h => by cases h), fun s args h1 h2 => pm_T_of hl cl_all ar_all ik_X3_seatsAt ck_X3_seatsAt s args h2 (fun L xs h => by cases h)⟩
  · obtain ⟨rfl, rfl⟩ : C_X3_seatsAt = C ∧ 4 = nL := Prod.mk.injEq _ _ _ _ ▸ Option.some.inj h
    exact ⟨fun s args c h1 h2 h3 => hd_0_ok h3, fun h => (h rfl).elim⟩
theorem ok_26 (hl : l.stackTraces = false) : okMj l n0 sa sv 26 ∧ okHj n0 sa sv 26 := by
  refine ⟨fun C nL h => ?_, fun C nL h => ?_⟩
  · obtain ⟨rfl, rfl⟩ : C_X3_isWall = C ∧ 2 = nL := Prod.mk.injEq _ _ _ _ ▸ Option.some.inj h
    exact ⟨rfl, plain_ok (by decide), rfl, (fun h => by cases h), fun s args h1 h2 => pm_T_of hl cl_all ar_all ik_X3_isWall ck_X3_isWall s args h2 (fun L xs h => by cases h)⟩
  · obtain ⟨rfl, rfl⟩ : C_X3_isWall = C ∧ 2 = nL := Prod.mk.injEq _ _ _ _ ▸ Option.some.inj h
    exact ⟨fun s args c h1 h2 h3 => hd_0_ok h3, fun h => (h rfl).elim⟩
theorem ok_27 (hl : l.stackTraces = false) : okMj l n0 sa sv 27 ∧ okHj n0 sa sv 27 := by
  refine ⟨fun C nL h => ?_, fun C nL h => ?_⟩
  · obtain ⟨rfl, rfl⟩ : C_X3_isStart = C ∧ 3 = nL := Prod.mk.injEq _ _ _ _ ▸ Option.some.inj h
    exact ⟨rfl, plain_ok (by decide), rfl, (fun h => by cases h), fun s args h1 h2 => pm_T_of hl cl_all ar_all ik_X3_isStart ck_X3_isStart s args h2 (fun L xs h => by cases h)⟩
  · obtain ⟨rfl, rfl⟩ : C_X3_isStart = C ∧ 3 = nL := Prod.mk.injEq _ _ _ _ ▸ Option.some.inj h
    exact ⟨fun s args c h1 h2 h3 => hd_0_ok h3, fun h => (h rfl).elim⟩
theorem ok_28 (hl : l.stackTraces = false) : okMj l n0 sa sv 28 ∧ okHj n0 sa sv 28 := by
  refine ⟨fun C nL h => ?_, fun C nL h => ?_⟩
  · obtain ⟨rfl, rfl⟩ : C_X3_beside = C ∧ 4 = nL := Prod.mk.injEq _ _ _ _ ▸ Option.some.inj h
    exact ⟨rfl, plain_ok (by decide), rfl, (fun h => by cases h), fun s args h1 h2 => pm_T_of hl cl_all ar_all ik_X3_beside ck_X3_beside s args h2 (fun L xs h => by cases h)⟩
  · obtain ⟨rfl, rfl⟩ : C_X3_beside = C ∧ 4 = nL := Prod.mk.injEq _ _ _ _ ▸ Option.some.inj h
    exact ⟨fun s args c h1 h2 h3 => hd_0_ok h3, fun h => (h rfl).elim⟩
theorem ok_29 (hl : l.stackTraces = false) : okMj l n0 sa sv 29 ∧ okHj n0 sa sv 29 := by
  refine ⟨fun C nL h => ?_, fun C nL h => ?_⟩
  · obtain ⟨rfl, rfl⟩ : C_X4_init = C ∧ 1 = nL := Prod.mk.injEq _ _ _ _ ▸ Option.some.inj h
    exact ⟨rfl, plain_ok (by decide), rfl, fun _ => rfl, fun s args h1 h2 => pm_T_of hl cl_all ar_all ik_X4_init ck_X4_init s args h2 (fun L xs h => by cases h)⟩
  · obtain ⟨rfl, rfl⟩ : C_X4_init = C ∧ 1 = nL := Prod.mk.injEq _ _ _ _ ▸ Option.some.inj h
    exact ⟨fun s args c h1 h2 h3 => hd_0_ok h3, fun h => (h rfl).elim⟩
theorem ok_30 (hl : l.stackTraces = false) : okMj l n0 sa sv 30 ∧ okHj n0 sa sv 30 := by
  refine ⟨fun C nL h => ?_, fun C nL h => ?_⟩
  · obtain ⟨rfl, rfl⟩ : C_X4_read = C ∧ 6 = nL := Prod.mk.injEq _ _ _ _ ▸ Option.some.inj h
    exact ⟨rfl, plain_ok (by decide), rfl, (fun h => by cases h), fun s args h1 h2 => pm_T_of hl cl_all ar_all ik_X4_read ck_X4_read s args h2 (fun L xs h => by cases h)⟩
  · obtain ⟨rfl, rfl⟩ : C_X4_read = C ∧ 6 = nL := Prod.mk.injEq _ _ _ _ ▸ Option.some.inj h
    exact ⟨fun s args c h1 h2 h3 => hd_0_ok h3, fun h => (h rfl).elim⟩
theorem ok_31 (hl : l.stackTraces = false) : okMj l n0 sa sv 31 ∧ okHj n0 sa sv 31 := by
  refine ⟨fun C nL h => ?_, fun C nL h => ?_⟩
  · obtain ⟨rfl, rfl⟩ : C_X4_readTable = C ∧ 4 = nL := Prod.mk.injEq _ _ _ _ ▸ Option.some.inj h
    exact ⟨rfl, plain_ok (by decide), rfl, (fun h => by cases h), fun s args h1 h2 => pm_T_of hl cl_all ar_all ik_X4_readTable ck_X4_readTable s args h2 (fun L xs h => by cases h)⟩
  · obtain ⟨rfl, rfl⟩ : C_X4_readTable = C ∧ 4 = nL := Prod.mk.injEq _ _ _ _ ▸ Option.some.inj h
    exact ⟨fun s args c h1 h2 h3 => hd_0_ok h3, fun h => (h rfl).elim⟩
theorem ok_32 (hl : l.stackTraces = false) : okMj l n0 sa sv 32 ∧ okHj n0 sa sv 32 := by
  refine ⟨fun C nL h => ?_, fun C nL h => ?_⟩
  · obtain ⟨rfl, rfl⟩ : C_X4_readStop = C ∧ 1 = nL := Prod.mk.injEq _ _ _ _ ▸ Option.some.inj h
    exact ⟨rfl, plain_ok (by decide), rfl, (fun h => by cases h), fun s args h1 h2 => pm_T_of hl cl_all ar_all ik_X4_readStop ck_X4_readStop s args h2 (fun L xs h => by cases h)⟩
  · obtain ⟨rfl, rfl⟩ : C_X4_readStop = C ∧ 1 = nL := Prod.mk.injEq _ _ _ _ ▸ Option.some.inj h
    exact ⟨fun s args c h1 h2 h3 => hd_0_ok h3, fun h => (h rfl).elim⟩
theorem ok_33 (hl : l.stackTraces = false) : okMj l n0 sa sv 33 ∧ okHj n0 sa sv 33 := by
  refine ⟨fun C nL h => ?_, fun C nL h => ?_⟩
  · obtain ⟨rfl, rfl⟩ : C_X4_readLine = C ∧ 3 = nL := Prod.mk.injEq _ _ _ _ ▸ Option.some.inj h
    exact ⟨rfl, plain_ok (by decide), rfl, (fun h => by cases h), fun s args h1 h2 => pm_T_of hl cl_all ar_all ik_X4_readLine ck_X4_readLine s args h2 (fun L xs h => by cases h)⟩
  · obtain ⟨rfl, rfl⟩ : C_X4_readLine = C ∧ 3 = nL := Prod.mk.injEq _ _ _ _ ▸ Option.some.inj h
    exact ⟨fun s args c h1 h2 h3 => hd_0_ok h3, fun h => (h rfl).elim⟩
theorem ok_34 (hl : l.stackTraces = false) : okMj l n0 sa sv 34 ∧ okHj n0 sa sv 34 := by
  refine ⟨fun C nL h => ?_, fun C nL h => ?_⟩
  · obtain ⟨rfl, rfl⟩ : C_X4_cellFault = C ∧ 3 = nL := Prod.mk.injEq _ _ _ _ ▸ Option.some.inj h
    exact ⟨rfl, plain_ok (by decide), rfl, (fun h => by cases h), fun s args h1 h2 => pm_T_of hl cl_all ar_all ik_X4_cellFault ck_X4_cellFault s args h2 (fun L xs h => by cases h)⟩
  · obtain ⟨rfl, rfl⟩ : C_X4_cellFault = C ∧ 3 = nL := Prod.mk.injEq _ _ _ _ ▸ Option.some.inj h
    exact ⟨fun s args c h1 h2 h3 => hd_0_ok h3, fun h => (h rfl).elim⟩
theorem ok_35 (hl : l.stackTraces = false) : okMj l n0 sa sv 35 ∧ okHj n0 sa sv 35 := by
  refine ⟨fun C nL h => ?_, fun C nL h => ?_⟩
  · obtain ⟨rfl, rfl⟩ : C_X4_readWall = C ∧ 3 = nL := Prod.mk.injEq _ _ _ _ ▸ Option.some.inj h
    exact ⟨rfl, plain_ok (by decide), rfl, (fun h => by cases h), fun s args h1 h2 => pm_T_of hl cl_all ar_all ik_X4_readWall ck_X4_readWall s args h2 (fun L xs h => by cases h)⟩
  · obtain ⟨rfl, rfl⟩ : C_X4_readWall = C ∧ 3 = nL := Prod.mk.injEq _ _ _ _ ▸ Option.some.inj h
    exact ⟨fun s args c h1 h2 h3 => hd_0_ok h3, fun h => (h rfl).elim⟩
theorem ok_36 (hl : l.stackTraces = false) : okMj l n0 sa sv 36 ∧ okHj n0 sa sv 36 := by
  refine ⟨fun C nL h => ?_, fun C nL h => ?_⟩
  · obtain ⟨rfl, rfl⟩ : C_X4_readFigure = C ∧ 5 = nL := Prod.mk.injEq _ _ _ _ ▸ Option.some.inj h
    exact ⟨rfl, plain_ok (by decide), rfl, (fun h => by cases h), fun s args h1 h2 => pm_T_of hl cl_all ar_all ik_X4_readFigure ck_X4_readFigure s args h2 (fun L xs h => by cases h)⟩
  · obtain ⟨rfl, rfl⟩ : C_X4_readFigure = C ∧ 5 = nL := Prod.mk.injEq _ _ _ _ ▸ Option.some.inj h
    exact ⟨fun s args c h1 h2 h3 => hd_0_ok h3, fun h => (h rfl).elim⟩
theorem ok_37 (hl : l.stackTraces = false) : okMj l n0 sa sv 37 ∧ okHj n0 sa sv 37 := by
  refine ⟨fun C nL h => ?_, fun C nL h => ?_⟩
  · obtain ⟨rfl, rfl⟩ : C_X4_readSeat = C ∧ 3 = nL := Prod.mk.injEq _ _ _ _ ▸ Option.some.inj h
    exact ⟨rfl, plain_ok (by decide), rfl, (fun h => by cases h), fun s args h1 h2 => pm_T_of hl cl_all ar_all ik_X4_readSeat ck_X4_readSeat s args h2 (fun L xs h => by cases h)⟩
  · obtain ⟨rfl, rfl⟩ : C_X4_readSeat = C ∧ 3 = nL := Prod.mk.injEq _ _ _ _ ▸ Option.some.inj h
    exact ⟨fun s args c h1 h2 h3 => hd_0_ok h3, fun h => (h rfl).elim⟩
theorem ok_38 (hl : l.stackTraces = false) : okMj l n0 sa sv 38 ∧ okHj n0 sa sv 38 := by
  refine ⟨fun C nL h => ?_, fun C nL h => ?_⟩
  · obtain ⟨rfl, rfl⟩ : C_X4_readLight = C ∧ 4 = nL := Prod.mk.injEq _ _ _ _ ▸ Option.some.inj h
    exact ⟨rfl, plain_ok (by decide), rfl, (fun h => by cases h), fun s args h1 h2 => pm_T_of hl cl_all ar_all ik_X4_readLight ck_X4_readLight s args h2 (fun L xs h => by cases h)⟩
  · obtain ⟨rfl, rfl⟩ : C_X4_readLight = C ∧ 4 = nL := Prod.mk.injEq _ _ _ _ ▸ Option.some.inj h
    exact ⟨fun s args c h1 h2 h3 => hd_0_ok h3, fun h => (h rfl).elim⟩
theorem ok_39 (hl : l.stackTraces = false) : okMj l n0 sa sv 39 ∧ okHj n0 sa sv 39 := by
  refine ⟨fun C nL h => ?_, fun C nL h => ?_⟩
  · obtain ⟨rfl, rfl⟩ : C_X4_readRow = C ∧ 6 = nL := Prod.mk.injEq _ _ _ _ ▸ Option.some.inj h
    exact ⟨rfl, plain_ok (by decide), rfl, (fun h => by cases h), fun s args h1 h2 => pm_T_of hl cl_all ar_all ik_X4_readRow ck_X4_readRow s args h2 (fun L xs h => by cases h)⟩
  · obtain ⟨rfl, rfl⟩ : C_X4_readRow = C ∧ 6 = nL := Prod.mk.injEq _ _ _ _ ▸ Option.some.inj h
    exact ⟨fun s args c h1 h2 h3 => hd_0_ok h3, fun h => (h rfl).elim⟩
theorem ok_40 (hl : l.stackTraces = false) : okMj l n0 sa sv 40 ∧ okHj n0 sa sv 40 := by
  refine ⟨fun C nL h => ?_, fun C nL h => ?_⟩
  · obtain ⟨rfl, rfl⟩ : C_X4_readDull = C ∧ 3 = nL := Prod.mk.injEq _ _ _ _ ▸ Option.some.inj h
    exact ⟨rfl, plain_ok (by decide), rfl, (fun h => by cases h), fun s args h1 h2 => pm_T_of hl cl_all ar_all ik_X4_readDull ck_X4_readDull s args h2 (fun L xs h => by cases h)⟩
  · obtain ⟨rfl, rfl⟩ : C_X4_readDull = C ∧ 3 = nL := Prod.mk.injEq _ _ _ _ ▸ Option.some.inj h
    exact ⟨fun s args c h1 h2 h3 => hd_0_ok h3, fun h => (h rfl).elim⟩
theorem ok_41 (hl : l.stackTraces = false) : okMj l n0 sa sv 41 ∧ okHj n0 sa sv 41 := by
  refine ⟨fun C nL h => ?_, fun C nL h => ?_⟩
  · obtain ⟨rfl, rfl⟩ : C_X5_init = C ∧ 1 = nL := Prod.mk.injEq _ _ _ _ ▸ Option.some.inj h
    exact ⟨rfl, plain_ok (by decide), rfl, fun _ => rfl, fun s args h1 h2 => pm_T_of hl cl_all ar_all ik_X5_init ck_X5_init s args h2 (fun L xs h => by cases h)⟩
  · obtain ⟨rfl, rfl⟩ : C_X5_init = C ∧ 1 = nL := Prod.mk.injEq _ _ _ _ ▸ Option.some.inj h
    exact ⟨fun s args c h1 h2 h3 => hd_0_ok h3, fun h => (h rfl).elim⟩
theorem ok_42 (hl : l.stackTraces = false) : okMj l n0 sa sv 42 ∧ okHj n0 sa sv 42 := by
  refine ⟨fun C nL h => ?_, fun C nL h => ?_⟩
  · obtain ⟨rfl, rfl⟩ : C_X5_clear = C ∧ 1 = nL := Prod.mk.injEq _ _ _ _ ▸ Option.some.inj h
    exact ⟨rfl, plain_ok (by decide), rfl, (fun h => by cases h), fun s args h1 h2 => pm_T_of hl cl_all ar_all ik_X5_clear ck_X5_clear s args h2 (fun L xs h => by cases h)⟩
  · obtain ⟨rfl, rfl⟩ : C_X5_clear = C ∧ 1 = nL := Prod.mk.injEq _ _ _ _ ▸ Option.some.inj h
    exact ⟨fun s args c h1 h2 h3 => hd_0_ok h3, fun h => (h rfl).elim⟩
theorem ok_43 (hl : l.stackTraces = false) : okMj l n0 sa sv 43 ∧ okHj n0 sa sv 43 := by
  refine ⟨fun C nL h => ?_, fun C nL h => ?_⟩
  · obtain ⟨rfl, rfl⟩ : C_X5_isTold = C ∧ 1 = nL := Prod.mk.injEq _ _ _ _ ▸ Option.some.inj h
    exact ⟨rfl, plain_ok (by decide), rfl, (fun h => by cases h), fun s args h1 h2 => pm_T_of hl cl_all ar_all ik_X5_isTold ck_X5_isTold s args h2 (fun L xs h => by cases h)⟩
  · obtain ⟨rfl, rfl⟩ : C_X5_isTold = C ∧ 1 = nL := Prod.mk.injEq _ _ _ _ ▸ Option.some.inj h
    exact ⟨fun s args c h1 h2 h3 => hd_0_ok h3, fun h => (h rfl).elim⟩
theorem ok_44 (hl : l.stackTraces = false) : okMj l n0 sa sv 44 ∧ okHj n0 sa sv 44 := by
  refine ⟨fun C nL h => ?_, fun C nL h => ?_⟩
  · obtain ⟨rfl, rfl⟩ : C_X5_add = C ∧ 2 = nL := Prod.mk.injEq _ _ _ _ ▸ Option.some.inj h
    exact ⟨rfl, plain_ok (by decide), rfl, (fun h => by cases h), fun s args h1 h2 => pm_T_of hl cl_all ar_all ik_X5_add ck_X5_add s args h2 (fun L xs h => by cases h)⟩
  · obtain ⟨rfl, rfl⟩ : C_X5_add = C ∧ 2 = nL := Prod.mk.injEq _ _ _ _ ▸ Option.some.inj h
    exact ⟨fun s args c h1 h2 h3 => hd_0_ok h3, fun h => (h rfl).elim⟩
theorem ok_45 (hl : l.stackTraces = false) : okMj l n0 sa sv 45 ∧ okHj n0 sa sv 45 := by
  refine ⟨fun C nL h => ?_, fun C nL h => ?_⟩
  · obtain ⟨rfl, rfl⟩ : C_X5_value = C ∧ 5 = nL := Prod.mk.injEq _ _ _ _ ▸ Option.some.inj h
    exact ⟨rfl, plain_ok (by decide), rfl, (fun h => by cases h), fun s args h1 h2 => pm_T_of hl cl_all ar_all ik_X5_value ck_X5_value s args h2 (fun L xs h => by cases h)⟩
  · obtain ⟨rfl, rfl⟩ : C_X5_value = C ∧ 5 = nL := Prod.mk.injEq _ _ _ _ ▸ Option.some.inj h
    exact ⟨fun s args c h1 h2 h3 => hd_0_ok h3, fun h => (h rfl).elim⟩
theorem ok_46 (hl : l.stackTraces = false) : okMj l n0 sa sv 46 ∧ okHj n0 sa sv 46 := by
  refine ⟨fun C nL h => ?_, fun C nL h => ?_⟩
  · obtain ⟨rfl, rfl⟩ : C_X5_join = C ∧ 3 = nL := Prod.mk.injEq _ _ _ _ ▸ Option.some.inj h
    exact ⟨rfl, plain_ok (by decide), rfl, (fun h => by cases h), fun s args h1 h2 => pm_T_of hl cl_all ar_all ik_X5_join ck_X5_join s args h2 (fun L xs h => by cases h)⟩
  · obtain ⟨rfl, rfl⟩ : C_X5_join = C ∧ 3 = nL := Prod.mk.injEq _ _ _ _ ▸ Option.some.inj h
    exact ⟨fun s args c h1 h2 h3 => hd_0_ok h3, fun h => (h rfl).elim⟩
theorem ok_47 (hl : l.stackTraces = false) : okMj l n0 sa sv 47 ∧ okHj n0 sa sv 47 := by
  refine ⟨fun C nL h => ?_, fun C nL h => ?_⟩
  · obtain ⟨rfl, rfl⟩ : C_X6_init = C ∧ 1 = nL := Prod.mk.injEq _ _ _ _ ▸ Option.some.inj h
    exact ⟨rfl, plain_ok (by decide), rfl, fun _ => rfl, fun s args h1 h2 => pm_T_of hl cl_all ar_all ik_X6_init ck_X6_init s args h2 (fun L xs h => by cases h)⟩
  · obtain ⟨rfl, rfl⟩ : C_X6_init = C ∧ 1 = nL := Prod.mk.injEq _ _ _ _ ▸ Option.some.inj h
    exact ⟨fun s args c h1 h2 h3 => hd_0_ok h3, fun h => (h rfl).elim⟩
theorem ok_48 (hl : l.stackTraces = false) : okMj l n0 sa sv 48 ∧ okHj n0 sa sv 48 := by
  refine ⟨fun C nL h => ?_, fun C nL h => ?_⟩
  · obtain ⟨rfl, rfl⟩ : C_X6_read = C ∧ 6 = nL := Prod.mk.injEq _ _ _ _ ▸ Option.some.inj h
    exact ⟨rfl, plain_ok (by decide), rfl, (fun h => by cases h), fun s args h1 h2 => pm_T_of hl cl_all ar_all ik_X6_read ck_X6_read s args h2 (fun L xs h => by cases h)⟩
  · obtain ⟨rfl, rfl⟩ : C_X6_read = C ∧ 6 = nL := Prod.mk.injEq _ _ _ _ ▸ Option.some.inj h
    exact ⟨fun s args c h1 h2 h3 => hd_0_ok h3, fun h => (h rfl).elim⟩
theorem ok_49 (hl : l.stackTraces = false) : okMj l n0 sa sv 49 ∧ okHj n0 sa sv 49 := by
  refine ⟨fun C nL h => ?_, fun C nL h => ?_⟩
  · obtain ⟨rfl, rfl⟩ : C_X6_isEnd = C ∧ 2 = nL := Prod.mk.injEq _ _ _ _ ▸ Option.some.inj h
    exact ⟨rfl, plain_ok (by decide), rfl, (fun h => by cases h), fun s args h1 h2 => pm_T_of hl cl_all ar_all ik_X6_isEnd ck_X6_isEnd s args h2 (fun L xs h => by cases h)⟩
  · obtain ⟨rfl, rfl⟩ : C_X6_isEnd = C ∧ 2 = nL := Prod.mk.injEq _ _ _ _ ▸ Option.some.inj h
    exact ⟨fun s args c h1 h2 h3 => hd_0_ok h3, fun h => (h rfl).elim⟩
theorem ok_50 (hl : l.stackTraces = false) : okMj l n0 sa sv 50 ∧ okHj n0 sa sv 50 := by
  refine ⟨fun C nL h => ?_, fun C nL h => ?_⟩
  · obtain ⟨rfl, rfl⟩ : C_X6_beginPart = C ∧ 2 = nL := Prod.mk.injEq _ _ _ _ ▸ Option.some.inj h
    exact ⟨rfl, plain_ok (by decide), rfl, (fun h => by cases h), fun s args h1 h2 => pm_T_of hl cl_all ar_all ik_X6_beginPart ck_X6_beginPart s args h2 (fun L xs h => by cases h)⟩
  · obtain ⟨rfl, rfl⟩ : C_X6_beginPart = C ∧ 2 = nL := Prod.mk.injEq _ _ _ _ ▸ Option.some.inj h
    exact ⟨fun s args c h1 h2 h3 => hd_0_ok h3, fun h => (h rfl).elim⟩
theorem ok_51 (hl : l.stackTraces = false) : okMj l n0 sa sv 51 ∧ okHj n0 sa sv 51 := by
  refine ⟨fun C nL h => ?_, fun C nL h => ?_⟩
  · obtain ⟨rfl, rfl⟩ : C_X6_readPart = C ∧ 5 = nL := Prod.mk.injEq _ _ _ _ ▸ Option.some.inj h
    exact ⟨rfl, plain_ok (by decide), rfl, (fun h => by cases h), fun s args h1 h2 => pm_T_of hl cl_all ar_all ik_X6_readPart ck_X6_readPart s args h2 (fun L xs h => by cases h)⟩
  · obtain ⟨rfl, rfl⟩ : C_X6_readPart = C ∧ 5 = nL := Prod.mk.injEq _ _ _ _ ▸ Option.some.inj h
    exact ⟨fun s args c h1 h2 h3 => hd_0_ok h3, fun h => (h rfl).elim⟩
theorem ok_52 (hl : l.stackTraces = false) : okMj l n0 sa sv 52 ∧ okHj n0 sa sv 52 := by
  refine ⟨fun C nL h => ?_, fun C nL h => ?_⟩
  · obtain ⟨rfl, rfl⟩ : C_X6_readNumber = C ∧ 4 = nL := Prod.mk.injEq _ _ _ _ ▸ Option.some.inj h
    exact ⟨rfl, plain_ok (by decide), rfl, (fun h => by cases h), fun s args h1 h2 => pm_T_of hl cl_all ar_all ik_X6_readNumber ck_X6_readNumber s args h2 (fun L xs h => by cases h)⟩
  · obtain ⟨rfl, rfl⟩ : C_X6_readNumber = C ∧ 4 = nL := Prod.mk.injEq _ _ _ _ ▸ Option.some.inj h
    exact ⟨fun s args c h1 h2 h3 => hd_0_ok h3, fun h => (h rfl).elim⟩
theorem ok_53 (hl : l.stackTraces = false) : okMj l n0 sa sv 53 ∧ okHj n0 sa sv 53 := by
  refine ⟨fun C nL h => ?_, fun C nL h => ?_⟩
  · obtain ⟨rfl, rfl⟩ : C_X6_readWord = C ∧ 4 = nL := Prod.mk.injEq _ _ _ _ ▸ Option.some.inj h
    exact ⟨rfl, plain_ok (by decide), rfl, (fun h => by cases h), fun s args h1 h2 => pm_T_of hl cl_all ar_all ik_X6_readWord ck_X6_readWord s args h2 (fun L xs h => by cases h)⟩
  · obtain ⟨rfl, rfl⟩ : C_X6_readWord = C ∧ 4 = nL := Prod.mk.injEq _ _ _ _ ▸ Option.some.inj h
    exact ⟨fun s args c h1 h2 h3 => hd_0_ok h3, fun h => (h rfl).elim⟩
theorem ok_54 (hl : l.stackTraces = false) : okMj l n0 sa sv 54 ∧ okHj n0 sa sv 54 := by
  refine ⟨fun C nL h => ?_, fun C nL h => ?_⟩
  · obtain ⟨rfl, rfl⟩ : C_X6_valueOf = C ∧ 2 = nL := Prod.mk.injEq _ _ _ _ ▸ Option.some.inj h
    exact ⟨rfl, plain_ok (by decide), rfl, (fun h => by cases h), fun s args h1 h2 => pm_T_of hl cl_all ar_all ik_X6_valueOf ck_X6_valueOf s args h2 (fun L xs h => by cases h)⟩
  · obtain ⟨rfl, rfl⟩ : C_X6_valueOf = C ∧ 2 = nL := Prod.mk.injEq _ _ _ _ ▸ Option.some.inj h
    exact ⟨fun s args c h1 h2 h3 => hd_0_ok h3, fun h => (h rfl).elim⟩
theorem ok_55 (hl : l.stackTraces = false) : okMj l n0 sa sv 55 ∧ okHj n0 sa sv 55 := by
  refine ⟨fun C nL h => ?_, fun C nL h => ?_⟩
  · obtain ⟨rfl, rfl⟩ : C_X6_readOperator = C ∧ 6 = nL := Prod.mk.injEq _ _ _ _ ▸ Option.some.inj h
    exact ⟨rfl, plain_ok (by decide), rfl, (fun h => by cases h), fun s args h1 h2 => pm_T_of hl cl_all ar_all ik_X6_readOperator ck_X6_readOperator s args h2 (fun L xs h => by cases h)⟩
  · obtain ⟨rfl, rfl⟩ : C_X6_readOperator = C ∧ 6 = nL := Prod.mk.injEq _ _ _ _ ▸ Option.some.inj h
    exact ⟨fun s args c h1 h2 h3 => hd_0_ok h3, fun h => (h rfl).elim⟩
theorem ok_56 (hl : l.stackTraces = false) : okMj l n0 sa sv 56 ∧ okHj n0 sa sv 56 := by
  refine ⟨fun C nL h => ?_, fun C nL h => ?_⟩
  · obtain ⟨rfl, rfl⟩ : C_X6_operatorOf = C ∧ 1 = nL := Prod.mk.injEq _ _ _ _ ▸ Option.some.inj h
    exact ⟨rfl, plain_ok (by decide), rfl, (fun h => by cases h), fun s args h1 h2 => pm_T_of hl cl_all ar_all ik_X6_operatorOf ck_X6_operatorOf s args h2 (fun L xs h => by cases h)⟩
  · obtain ⟨rfl, rfl⟩ : C_X6_operatorOf = C ∧ 1 = nL := Prod.mk.injEq _ _ _ _ ▸ Option.some.inj h
    exact ⟨fun s args c h1 h2 h3 => hd_0_ok h3, fun h => (h rfl).elim⟩
theorem ok_57 (hl : l.stackTraces = false) : okMj l n0 sa sv 57 ∧ okHj n0 sa sv 57 := by
  refine ⟨fun C nL h => ?_, fun C nL h => ?_⟩
  · obtain ⟨rfl, rfl⟩ : C_X6_rankOf = C ∧ 1 = nL := Prod.mk.injEq _ _ _ _ ▸ Option.some.inj h
    exact ⟨rfl, plain_ok (by decide), rfl, (fun h => by cases h), fun s args h1 h2 => pm_T_of hl cl_all ar_all ik_X6_rankOf ck_X6_rankOf s args h2 (fun L xs h => by cases h)⟩
  · obtain ⟨rfl, rfl⟩ : C_X6_rankOf = C ∧ 1 = nL := Prod.mk.injEq _ _ _ _ ▸ Option.some.inj h
    exact ⟨fun s args c h1 h2 h3 => hd_0_ok h3, fun h => (h rfl).elim⟩
theorem ok_58 (hl : l.stackTraces = false) : okMj l n0 sa sv 58 ∧ okHj n0 sa sv 58 := by
  refine ⟨fun C nL h => ?_, fun C nL h => ?_⟩
  · obtain ⟨rfl, rfl⟩ : C_X6_push = C ∧ 2 = nL := Prod.mk.injEq _ _ _ _ ▸ Option.some.inj h
    exact ⟨rfl, plain_ok (by decide), rfl, (fun h => by cases h), fun s args h1 h2 => pm_T_of hl cl_all ar_all ik_X6_push ck_X6_push s args h2 (fun L xs h => by cases h)⟩
  · obtain ⟨rfl, rfl⟩ : C_X6_push = C ∧ 2 = nL := Prod.mk.injEq _ _ _ _ ▸ Option.some.inj h
    exact ⟨fun s args c h1 h2 h3 => hd_0_ok h3, fun h => (h rfl).elim⟩
theorem ok_59 (hl : l.stackTraces = false) : okMj l n0 sa sv 59 ∧ okHj n0 sa sv 59 := by
  refine ⟨fun C nL h => ?_, fun C nL h => ?_⟩
  · obtain ⟨rfl, rfl⟩ : C_X6_release = C ∧ 3 = nL := Prod.mk.injEq _ _ _ _ ▸ Option.some.inj h
    exact ⟨rfl, plain_ok (by decide), rfl, (fun h => by cases h), fun s args h1 h2 => pm_T_of hl cl_all ar_all ik_X6_release ck_X6_release s args h2 (fun L xs h => by cases h)⟩
  · obtain ⟨rfl, rfl⟩ : C_X6_release = C ∧ 3 = nL := Prod.mk.injEq _ _ _ _ ▸ Option.some.inj h
    exact ⟨fun s args c h1 h2 h3 => hd_0_ok h3, fun h => (h rfl).elim⟩
theorem ok_60 (hl : l.stackTraces = false) : okMj l n0 sa sv 60 ∧ okHj n0 sa sv 60 := by
  refine ⟨fun C nL h => ?_, fun C nL h => ?_⟩
  · obtain ⟨rfl, rfl⟩ : C_X7_init = C ∧ 1 = nL := Prod.mk.injEq _ _ _ _ ▸ Option.some.inj h
    exact ⟨rfl, plain_ok (by decide), rfl, fun _ => rfl, fun s args h1 h2 => pm_T_of hl cl_all ar_all ik_X7_init ck_X7_init s args h2 (fun L xs h => by cases h)⟩
  · obtain ⟨rfl, rfl⟩ : C_X7_init = C ∧ 1 = nL := Prod.mk.injEq _ _ _ _ ▸ Option.some.inj h
    exact ⟨fun s args c h1 h2 h3 => hd_0_ok h3, fun h => (h rfl).elim⟩
theorem ok_61 (hl : l.stackTraces = false) : okMj l n0 sa sv 61 ∧ okHj n0 sa sv 61 := by
  refine ⟨fun C nL h => ?_, fun C nL h => ?_⟩
  · obtain ⟨rfl, rfl⟩ : C_X7_place = C ∧ 6 = nL := Prod.mk.injEq _ _ _ _ ▸ Option.some.inj h
    exact ⟨rfl, plain_ok (by decide), rfl, (fun h => by cases h), fun s args h1 h2 => pm_T_of hl cl_all ar_all ik_X7_place ck_X7_place s args h2 (fun L xs h => by cases h)⟩
  · obtain ⟨rfl, rfl⟩ : C_X7_place = C ∧ 6 = nL := Prod.mk.injEq _ _ _ _ ▸ Option.some.inj h
    exact ⟨fun s args c h1 h2 h3 => hd_0_ok h3, fun h => (h rfl).elim⟩
theorem ok_62 (hl : l.stackTraces = false) : okMj l n0 sa sv 62 ∧ okHj n0 sa sv 62 := by
  refine ⟨fun C nL h => ?_, fun C nL h => ?_⟩
  · obtain ⟨rfl, rfl⟩ : C_X7_measureAll = C ∧ 6 = nL := Prod.mk.injEq _ _ _ _ ▸ Option.some.inj h
    exact ⟨rfl, plain_ok (by decide), rfl, (fun h => by cases h), fun s args h1 h2 => pm_T_of hl cl_all ar_all ik_X7_measureAll ck_X7_measureAll s args h2 (fun L xs h => by cases h)⟩
  · obtain ⟨rfl, rfl⟩ : C_X7_measureAll = C ∧ 6 = nL := Prod.mk.injEq _ _ _ _ ▸ Option.some.inj h
    exact ⟨fun s args c h1 h2 h3 => hd_0_ok h3, fun h => (h rfl).elim⟩
theorem ok_63 (hl : l.stackTraces = false) : okMj l n0 sa sv 63 ∧ okHj n0 sa sv 63 := by
  refine ⟨fun C nL h => ?_, fun C nL h => ?_⟩
  · obtain ⟨rfl, rfl⟩ : C_X7_bestFrom = C ∧ 6 = nL := Prod.mk.injEq _ _ _ _ ▸ Option.some.inj h
    exact ⟨rfl, plain_ok (by decide), rfl, (fun h => by cases h), fun s args h1 h2 => pm_T_of hl cl_all ar_all ik_X7_bestFrom ck_X7_bestFrom s args h2 (fun L xs h => by cases h)⟩
  · obtain ⟨rfl, rfl⟩ : C_X7_bestFrom = C ∧ 6 = nL := Prod.mk.injEq _ _ _ _ ▸ Option.some.inj h
    exact ⟨fun s args c h1 h2 h3 => hd_0_ok h3, fun h => (h rfl).elim⟩
theorem ok_64 (hl : l.stackTraces = false) : okMj l n0 sa sv 64 ∧ okHj n0 sa sv 64 := by
  refine ⟨fun C nL h => ?_, fun C nL h => ?_⟩
  · obtain ⟨rfl, rfl⟩ : C_X7_worthAt = C ∧ 5 = nL := Prod.mk.injEq _ _ _ _ ▸ Option.some.inj h
    exact ⟨rfl, plain_ok (by decide), rfl, (fun h => by cases h), fun s args h1 h2 => pm_T_of hl cl_all ar_all ik_X7_worthAt ck_X7_worthAt s args h2 (fun L xs h => by cases h)⟩
  · obtain ⟨rfl, rfl⟩ : C_X7_worthAt = C ∧ 5 = nL := Prod.mk.injEq _ _ _ _ ▸ Option.some.inj h
    exact ⟨fun s args c h1 h2 h3 => hd_0_ok h3, fun h => (h rfl).elim⟩
theorem ok_65 (hl : l.stackTraces = false) : okMj l n0 sa sv 65 ∧ okHj n0 sa sv 65 := by
  refine ⟨fun C nL h => ?_, fun C nL h => ?_⟩
  · obtain ⟨rfl, rfl⟩ : C_X7_choose = C ∧ 5 = nL := Prod.mk.injEq _ _ _ _ ▸ Option.some.inj h
    exact ⟨rfl, plain_ok (by decide), rfl, (fun h => by cases h), fun s args h1 h2 => pm_T_of hl cl_all ar_all ik_X7_choose ck_X7_choose s args h2 (fun L xs h => by cases h)⟩
  · obtain ⟨rfl, rfl⟩ : C_X7_choose = C ∧ 5 = nL := Prod.mk.injEq _ _ _ _ ▸ Option.some.inj h
    exact ⟨fun s args c h1 h2 h3 => hd_0_ok h3, fun h => (h rfl).elim⟩
theorem ok_66 (hl : l.stackTraces = false) : okMj l n0 sa sv 66 ∧ okHj n0 sa sv 66 := by
  refine ⟨fun C nL h => ?_, fun C nL h => ?_⟩
  · obtain ⟨rfl, rfl⟩ : C_X8_init = C ∧ 1 = nL := Prod.mk.injEq _ _ _ _ ▸ Option.some.inj h
    exact ⟨rfl, plain_ok (by decide), rfl, fun _ => rfl, fun s args h1 h2 => pm_T_of hl cl_all ar_all ik_X8_init ck_X8_init s args h2 (fun L xs h => by cases h)⟩
  · obtain ⟨rfl, rfl⟩ : C_X8_init = C ∧ 1 = nL := Prod.mk.injEq _ _ _ _ ▸ Option.some.inj h
    exact ⟨fun s args c h1 h2 h3 => hd_0_ok h3, fun h => (h rfl).elim⟩
theorem ok_67 (hl : l.stackTraces = false) : okMj l n0 sa sv 67 ∧ okHj n0 sa sv 67 := by
  refine ⟨fun C nL h => ?_, fun C nL h => ?_⟩
  · obtain ⟨rfl, rfl⟩ : C_X8_begin = C ∧ 2 = nL := Prod.mk.injEq _ _ _ _ ▸ Option.some.inj h
    exact ⟨rfl, plain_ok (by decide), rfl, (fun h => by cases h), fun s args h1 h2 => pm_T_of hl cl_all ar_all ik_X8_begin ck_X8_begin s args h2 (fun L xs h => by cases h)⟩
  · obtain ⟨rfl, rfl⟩ : C_X8_begin = C ∧ 2 = nL := Prod.mk.injEq _ _ _ _ ▸ Option.some.inj h
    exact ⟨fun s args c h1 h2 h3 => hd_0_ok h3, fun h => (h rfl).elim⟩
theorem ok_68 (hl : l.stackTraces = false) : okMj l n0 sa sv 68 ∧ okHj n0 sa sv 68 := by
  refine ⟨fun C nL h => ?_, fun C nL h => ?_⟩
  · obtain ⟨rfl, rfl⟩ : C_X8_copyFrom = C ∧ 2 = nL := Prod.mk.injEq _ _ _ _ ▸ Option.some.inj h
    exact ⟨rfl, plain_ok (by decide), rfl, (fun h => by cases h), fun s args h1 h2 => pm_T_of hl cl_all ar_all ik_X8_copyFrom ck_X8_copyFrom s args h2 (fun L xs h => by cases h)⟩
  · obtain ⟨rfl, rfl⟩ : C_X8_copyFrom = C ∧ 2 = nL := Prod.mk.injEq _ _ _ _ ▸ Option.some.inj h
    exact ⟨fun s args c h1 h2 h3 => hd_0_ok h3, fun h => (h rfl).elim⟩
theorem ok_69 (hl : l.stackTraces = false) : okMj l n0 sa sv 69 ∧ okHj n0 sa sv 69 := by
  refine ⟨fun C nL h => ?_, fun C nL h => ?_⟩
  · obtain ⟨rfl, rfl⟩ : C_X8_saveTo = C ∧ 3 = nL := Prod.mk.injEq _ _ _ _ ▸ Option.some.inj h
    exact ⟨rfl, plain_ok (by decide), rfl, (fun h => by cases h), fun s args h1 h2 => pm_T_of hl cl_all ar_all ik_X8_saveTo ck_X8_saveTo s args h2 (fun L xs h => by cases h)⟩
  · obtain ⟨rfl, rfl⟩ : C_X8_saveTo = C ∧ 3 = nL := Prod.mk.injEq _ _ _ _ ▸ Option.some.inj h
    exact ⟨fun s args c h1 h2 h3 => hd_0_ok h3, fun h => (h rfl).elim⟩
theorem ok_70 (hl : l.stackTraces = false) : okMj l n0 sa sv 70 ∧ okHj n0 sa sv 70 := by
  refine ⟨fun C nL h => ?_, fun C nL h => ?_⟩
  · obtain ⟨rfl, rfl⟩ : C_X8_loadFrom = C ∧ 3 = nL := Prod.mk.injEq _ _ _ _ ▸ Option.some.inj h
    exact ⟨rfl, plain_ok (by decide), rfl, (fun h => by cases h), fun s args h1 h2 => pm_T_of hl cl_all ar_all ik_X8_loadFrom ck_X8_loadFrom s args h2 (fun L xs h => by cases h)⟩
  · obtain ⟨rfl, rfl⟩ : C_X8_loadFrom = C ∧ 3 = nL := Prod.mk.injEq _ _ _ _ ▸ Option.some.inj h
    exact ⟨fun s args c h1 h2 h3 => hd_0_ok h3, fun h => (h rfl).elim⟩
theorem ok_71 (hl : l.stackTraces = false) : okMj l n0 sa sv 71 ∧ okHj n0 sa sv 71 := by
  refine ⟨fun C nL h => ?_, fun C nL h => ?_⟩
  · obtain ⟨rfl, rfl⟩ : C_X8_isWall = C ∧ 2 = nL := Prod.mk.injEq _ _ _ _ ▸ Option.some.inj h
    exact ⟨rfl, plain_ok (by decide), rfl, (fun h => by cases h), fun s args h1 h2 => pm_T_of hl cl_all ar_all ik_X8_isWall ck_X8_isWall s args h2 (fun L xs h => by cases h)⟩
  · obtain ⟨rfl, rfl⟩ : C_X8_isWall = C ∧ 2 = nL := Prod.mk.injEq _ _ _ _ ▸ Option.some.inj h
    exact ⟨fun s args c h1 h2 h3 => hd_0_ok h3, fun h => (h rfl).elim⟩
theorem ok_72 (hl : l.stackTraces = false) : okMj l n0 sa sv 72 ∧ okHj n0 sa sv 72 := by
  refine ⟨fun C nL h => ?_, fun C nL h => ?_⟩
  · obtain ⟨rfl, rfl⟩ : C_X8_figuresAt = C ∧ 4 = nL := Prod.mk.injEq _ _ _ _ ▸ Option.some.inj h
    exact ⟨rfl, plain_ok (by decide), rfl, (fun h => by cases h), fun s args h1 h2 => pm_T_of hl cl_all ar_all ik_X8_figuresAt ck_X8_figuresAt s args h2 (fun L xs h => by cases h)⟩
  · obtain ⟨rfl, rfl⟩ : C_X8_figuresAt = C ∧ 4 = nL := Prod.mk.injEq _ _ _ _ ▸ Option.some.inj h
    exact ⟨fun s args c h1 h2 h3 => hd_0_ok h3, fun h => (h rfl).elim⟩
theorem ok_73 (hl : l.stackTraces = false) : okMj l n0 sa sv 73 ∧ okHj n0 sa sv 73 := by
  refine ⟨fun C nL h => ?_, fun C nL h => ?_⟩
  · obtain ⟨rfl, rfl⟩ : C_X8_othersWith = C ∧ 4 = nL := Prod.mk.injEq _ _ _ _ ▸ Option.some.inj h
    exact ⟨rfl, plain_ok (by decide), rfl, (fun h => by cases h), fun s args h1 h2 => pm_T_of hl cl_all ar_all ik_X8_othersWith ck_X8_othersWith s args h2 (fun L xs h => by cases h)⟩
  · obtain ⟨rfl, rfl⟩ : C_X8_othersWith = C ∧ 4 = nL := Prod.mk.injEq _ _ _ _ ▸ Option.some.inj h
    exact ⟨fun s args c h1 h2 h3 => hd_0_ok h3, fun h => (h rfl).elim⟩
theorem ok_74 (hl : l.stackTraces = false) : okMj l n0 sa sv 74 ∧ okHj n0 sa sv 74 := by
  refine ⟨fun C nL h => ?_, fun C nL h => ?_⟩
  · obtain ⟨rfl, rfl⟩ : C_X8_aloneBits = C ∧ 3 = nL := Prod.mk.injEq _ _ _ _ ▸ Option.some.inj h
    exact ⟨rfl, plain_ok (by decide), rfl, (fun h => by cases h), fun s args h1 h2 => pm_T_of hl cl_all ar_all ik_X8_aloneBits ck_X8_aloneBits s args h2 (fun L xs h => by cases h)⟩
  · obtain ⟨rfl, rfl⟩ : C_X8_aloneBits = C ∧ 3 = nL := Prod.mk.injEq _ _ _ _ ▸ Option.some.inj h
    exact ⟨fun s args c h1 h2 h3 => hd_0_ok h3, fun h => (h rfl).elim⟩
theorem ok_75 (hl : l.stackTraces = false) : okMj l n0 sa sv 75 ∧ okHj n0 sa sv 75 := by
  refine ⟨fun C nL h => ?_, fun C nL h => ?_⟩
  · obtain ⟨rfl, rfl⟩ : C_X8_placedAsBits = C ∧ 4 = nL := Prod.mk.injEq _ _ _ _ ▸ Option.some.inj h
    exact ⟨rfl, plain_ok (by decide), rfl, (fun h => by cases h), fun s args h1 h2 => pm_T_of hl cl_all ar_all ik_X8_placedAsBits ck_X8_placedAsBits s args h2 (fun L xs h => by cases h)⟩
  · obtain ⟨rfl, rfl⟩ : C_X8_placedAsBits = C ∧ 4 = nL := Prod.mk.injEq _ _ _ _ ▸ Option.some.inj h
    exact ⟨fun s args c h1 h2 h3 => hd_0_ok h3, fun h => (h rfl).elim⟩
theorem ok_76 (hl : l.stackTraces = false) : okMj l n0 sa sv 76 ∧ okHj n0 sa sv 76 := by
  refine ⟨fun C nL h => ?_, fun C nL h => ?_⟩
  · obtain ⟨rfl, rfl⟩ : C_X8_isPlacedAs = C ∧ 2 = nL := Prod.mk.injEq _ _ _ _ ▸ Option.some.inj h
    exact ⟨rfl, plain_ok (by decide), rfl, (fun h => by cases h), fun s args h1 h2 => pm_T_of hl cl_all ar_all ik_X8_isPlacedAs ck_X8_isPlacedAs s args h2 (fun L xs h => by cases h)⟩
  · obtain ⟨rfl, rfl⟩ : C_X8_isPlacedAs = C ∧ 2 = nL := Prod.mk.injEq _ _ _ _ ▸ Option.some.inj h
    exact ⟨fun s args c h1 h2 h3 => hd_0_ok h3, fun h => (h rfl).elim⟩
theorem ok_77 (hl : l.stackTraces = false) : okMj l n0 sa sv 77 ∧ okHj n0 sa sv 77 := by
  refine ⟨fun C nL h => ?_, fun C nL h => ?_⟩
  · obtain ⟨rfl, rfl⟩ : C_X8_places = C ∧ 4 = nL := Prod.mk.injEq _ _ _ _ ▸ Option.some.inj h
    exact ⟨rfl, plain_ok (by decide), rfl, (fun h => by cases h), fun s args h1 h2 => pm_T_of hl cl_all ar_all ik_X8_places ck_X8_places s args h2 (fun L xs h => by cases h)⟩
  · obtain ⟨rfl, rfl⟩ : C_X8_places = C ∧ 4 = nL := Prod.mk.injEq _ _ _ _ ▸ Option.some.inj h
    exact ⟨fun s args c h1 h2 h3 => hd_0_ok h3, fun h => (h rfl).elim⟩
theorem ok_78 (hl : l.stackTraces = false) : okMj l n0 sa sv 78 ∧ okHj n0 sa sv 78 := by
  refine ⟨fun C nL h => ?_, fun C nL h => ?_⟩
  · obtain ⟨rfl, rfl⟩ : C_X8_soreOfAll = C ∧ 3 = nL := Prod.mk.injEq _ _ _ _ ▸ Option.some.inj h
    exact ⟨rfl, plain_ok (by decide), rfl, (fun h => by cases h), fun s args h1 h2 => pm_T_of hl cl_all ar_all ik_X8_soreOfAll ck_X8_soreOfAll s args h2 (fun L xs h => by cases h)⟩
  · obtain ⟨rfl, rfl⟩ : C_X8_soreOfAll = C ∧ 3 = nL := Prod.mk.injEq _ _ _ _ ▸ Option.some.inj h
    exact ⟨fun s args c h1 h2 h3 => hd_0_ok h3, fun h => (h rfl).elim⟩
theorem ok_79 (hl : l.stackTraces = false) : okMj l n0 sa sv 79 ∧ okHj n0 sa sv 79 := by
  refine ⟨fun C nL h => ?_, fun C nL h => ?_⟩
  · obtain ⟨rfl, rfl⟩ : C_X8_heldBits = C ∧ 3 = nL := Prod.mk.injEq _ _ _ _ ▸ Option.some.inj h
    exact ⟨rfl, plain_ok (by decide), rfl, (fun h => by cases h), fun s args h1 h2 => pm_T_of hl cl_all ar_all ik_X8_heldBits ck_X8_heldBits s args h2 (fun L xs h => by cases h)⟩
  · obtain ⟨rfl, rfl⟩ : C_X8_heldBits = C ∧ 3 = nL := Prod.mk.injEq _ _ _ _ ▸ Option.some.inj h
    exact ⟨fun s args c h1 h2 h3 => hd_0_ok h3, fun h => (h rfl).elim⟩
theorem ok_80 (hl : l.stackTraces = false) : okMj l n0 sa sv 80 ∧ okHj n0 sa sv 80 := by
  refine ⟨fun C nL h => ?_, fun C nL h => ?_⟩
  · obtain ⟨rfl, rfl⟩ : C_X9_init = C ∧ 1 = nL := Prod.mk.injEq _ _ _ _ ▸ Option.some.inj h
    exact ⟨rfl, plain_ok (by decide), rfl, fun _ => rfl, fun s args h1 h2 => pm_T_of hl cl_all ar_all ik_X9_init ck_X9_init s args h2 (fun L xs h => by cases h)⟩
  · obtain ⟨rfl, rfl⟩ : C_X9_init = C ∧ 1 = nL := Prod.mk.injEq _ _ _ _ ▸ Option.some.inj h
    exact ⟨fun s args c h1 h2 h3 => hd_0_ok h3, fun h => (h rfl).elim⟩
theorem ok_81 (hl : l.stackTraces = false) : okMj l n0 sa sv 81 ∧ okHj n0 sa sv 81 := by
  refine ⟨fun C nL h => ?_, fun C nL h => ?_⟩
  · obtain ⟨rfl, rfl⟩ : C_X9_add = C ∧ 3 = nL := Prod.mk.injEq _ _ _ _ ▸ Option.some.inj h
    exact ⟨rfl, plain_ok (by decide), rfl, (fun h => by cases h), fun s args h1 h2 => pm_T_of hl cl_all ar_all ik_X9_add ck_X9_add s args h2 (fun L xs h => by cases h)⟩
  · obtain ⟨rfl, rfl⟩ : C_X9_add = C ∧ 3 = nL := Prod.mk.injEq _ _ _ _ ▸ Option.some.inj h
    exact ⟨fun s args c h1 h2 h3 => hd_0_ok h3, fun h => (h rfl).elim⟩
theorem ok_82 (hl : l.stackTraces = false) : okMj l n0 sa sv 82 ∧ okHj n0 sa sv 82 := by
  refine ⟨fun C nL h => ?_, fun C nL h => ?_⟩
  · obtain ⟨rfl, rfl⟩ : C_X9_begin = C ∧ 2 = nL := Prod.mk.injEq _ _ _ _ ▸ Option.some.inj h
    exact ⟨rfl, plain_ok (by decide), rfl, (fun h => by cases h), fun s args h1 h2 => pm_T_of hl cl_all ar_all ik_X9_begin ck_X9_begin s args h2 (fun L xs h => by cases h)⟩
  · obtain ⟨rfl, rfl⟩ : C_X9_begin = C ∧ 2 = nL := Prod.mk.injEq _ _ _ _ ▸ Option.some.inj h
    exact ⟨fun s args c h1 h2 h3 => hd_0_ok h3, fun h => (h rfl).elim⟩
theorem ok_83 (hl : l.stackTraces = false) : okMj l n0 sa sv 83 ∧ okHj n0 sa sv 83 := by
  refine ⟨fun C nL h => ?_, fun C nL h => ?_⟩
  · obtain ⟨rfl, rfl⟩ : C_X9_advance = C ∧ 2 = nL := Prod.mk.injEq _ _ _ _ ▸ Option.some.inj h
    exact ⟨rfl, plain_ok (by decide), rfl, (fun h => by cases h), fun s args h1 h2 => pm_T_of hl cl_all ar_all ik_X9_advance ck_X9_advance s args h2 (fun L xs h => by cases h)⟩
  · obtain ⟨rfl, rfl⟩ : C_X9_advance = C ∧ 2 = nL := Prod.mk.injEq _ _ _ _ ▸ Option.some.inj h
    exact ⟨fun s args c h1 h2 h3 => hd_0_ok h3, fun h => (h rfl).elim⟩
theorem ok_84 (hl : l.stackTraces = false) : okMj l n0 sa sv 84 ∧ okHj n0 sa sv 84 := by
  refine ⟨fun C nL h => ?_, fun C nL h => ?_⟩
  · obtain ⟨rfl, rfl⟩ : C_X9_readNumber = C ∧ 1 = nL := Prod.mk.injEq _ _ _ _ ▸ Option.some.inj h
    exact ⟨rfl, plain_ok (by decide), rfl, (fun h => by cases h), fun s args h1 h2 => pm_T_of hl cl_all ar_all ik_X9_readNumber ck_X9_readNumber s args h2 (fun L xs h => by cases h)⟩
  · obtain ⟨rfl, rfl⟩ : C_X9_readNumber = C ∧ 1 = nL := Prod.mk.injEq _ _ _ _ ▸ Option.some.inj h
    exact ⟨fun s args c h1 h2 h3 => hd_0_ok h3, fun h => (h rfl).elim⟩
theorem ok_85 (hl : l.stackTraces = false) : okMj l n0 sa sv 85 ∧ okHj n0 sa sv 85 := by
  refine ⟨fun C nL h => ?_, fun C nL h => ?_⟩
  · obtain ⟨rfl, rfl⟩ : C_X9_isLetter = C ∧ 1 = nL := Prod.mk.injEq _ _ _ _ ▸ Option.some.inj h
    exact ⟨rfl, plain_ok (by decide), rfl, (fun h => by cases h), fun s args h1 h2 => pm_T_of hl cl_all ar_all ik_X9_isLetter ck_X9_isLetter s args h2 (fun L xs h => by cases h)⟩
  · obtain ⟨rfl, rfl⟩ : C_X9_isLetter = C ∧ 1 = nL := Prod.mk.injEq _ _ _ _ ▸ Option.some.inj h
    exact ⟨fun s args c h1 h2 h3 => hd_0_ok h3, fun h => (h rfl).elim⟩
theorem ok_86 (hl : l.stackTraces = false) : okMj l n0 sa sv 86 ∧ okHj n0 sa sv 86 := by
  refine ⟨fun C nL h => ?_, fun C nL h => ?_⟩
  · obtain ⟨rfl, rfl⟩ : C_X9_isDigit = C ∧ 1 = nL := Prod.mk.injEq _ _ _ _ ▸ Option.some.inj h
    exact ⟨rfl, plain_ok (by decide), rfl, (fun h => by cases h), fun s args h1 h2 => pm_T_of hl cl_all ar_all ik_X9_isDigit ck_X9_isDigit s args h2 (fun L xs h => by cases h)⟩
  · obtain ⟨rfl, rfl⟩ : C_X9_isDigit = C ∧ 1 = nL := Prod.mk.injEq _ _ _ _ ▸ Option.some.inj h
    exact ⟨fun s args c h1 h2 h3 => hd_0_ok h3, fun h => (h rfl).elim⟩
theorem ok_87 (hl : l.stackTraces = false) : okMj l n0 sa sv 87 ∧ okHj n0 sa sv 87 := by
  refine ⟨fun C nL h => ?_, fun C nL h => ?_⟩
  · obtain ⟨rfl, rfl⟩ : C_X9_numberFault = C ∧ 3 = nL := Prod.mk.injEq _ _ _ _ ▸ Option.some.inj h
    exact ⟨rfl, plain_ok (by decide), rfl, (fun h => by cases h), fun s args h1 h2 => pm_T_of hl cl_all ar_all ik_X9_numberFault ck_X9_numberFault s args h2 (fun L xs h => by cases h)⟩
  · obtain ⟨rfl, rfl⟩ : C_X9_numberFault = C ∧ 3 = nL := Prod.mk.injEq _ _ _ _ ▸ Option.some.inj h
    exact ⟨fun s args c h1 h2 h3 => hd_0_ok h3, fun h => (h rfl).elim⟩
theorem ok_88 (hl : l.stackTraces = false) : okMj l n0 sa sv 88 ∧ okHj n0 sa sv 88 := by
  refine ⟨fun C nL h => ?_, fun C nL h => ?_⟩
  · obtain ⟨rfl, rfl⟩ : C_X9_isSign = C ∧ 2 = nL := Prod.mk.injEq _ _ _ _ ▸ Option.some.inj h
    exact ⟨rfl, plain_ok (by decide), rfl, (fun h => by cases h), fun s args h1 h2 => pm_T_of hl cl_all ar_all ik_X9_isSign ck_X9_isSign s args h2 (fun L xs h => by cases h)⟩
  · obtain ⟨rfl, rfl⟩ : C_X9_isSign = C ∧ 2 = nL := Prod.mk.injEq _ _ _ _ ▸ Option.some.inj h
    exact ⟨fun s args c h1 h2 h3 => hd_0_ok h3, fun h => (h rfl).elim⟩
theorem ok_89 (hl : l.stackTraces = false) : okMj l n0 sa sv 89 ∧ okHj n0 sa sv 89 := by
  refine ⟨fun C nL h => ?_, fun C nL h => ?_⟩
  · obtain ⟨rfl, rfl⟩ : C_X9_sign = C ∧ 1 = nL := Prod.mk.injEq _ _ _ _ ▸ Option.some.inj h
    exact ⟨rfl, plain_ok (by decide), rfl, (fun h => by cases h), fun s args h1 h2 => pm_T_of hl cl_all ar_all ik_X9_sign ck_X9_sign s args h2 (fun L xs h => by cases h)⟩
  · obtain ⟨rfl, rfl⟩ : C_X9_sign = C ∧ 1 = nL := Prod.mk.injEq _ _ _ _ ▸ Option.some.inj h
    exact ⟨fun s args c h1 h2 h3 => hd_0_ok h3, fun h => (h rfl).elim⟩
theorem ok_90 (hl : l.stackTraces = false) : okMj l n0 sa sv 90 ∧ okHj n0 sa sv 90 := by
  refine ⟨fun C nL h => ?_, fun C nL h => ?_⟩
  · obtain ⟨rfl, rfl⟩ : C_X9_isWord = C ∧ 3 = nL := Prod.mk.injEq _ _ _ _ ▸ Option.some.inj h
    exact ⟨rfl, plain_ok (by decide), rfl, (fun h => by cases h), fun s args h1 h2 => pm_T_of hl cl_all ar_all ik_X9_isWord ck_X9_isWord s args h2 (fun L xs h => by cases h)⟩
  · obtain ⟨rfl, rfl⟩ : C_X9_isWord = C ∧ 3 = nL := Prod.mk.injEq _ _ _ _ ▸ Option.some.inj h
    exact ⟨fun s args c h1 h2 h3 => hd_0_ok h3, fun h => (h rfl).elim⟩
theorem ok_91 (hl : l.stackTraces = false) : okMj l n0 sa sv 91 ∧ okHj n0 sa sv 91 := by
  refine ⟨fun C nL h => ?_, fun C nL h => ?_⟩
  · obtain ⟨rfl, rfl⟩ : C_X10_init = C ∧ 1 = nL := Prod.mk.injEq _ _ _ _ ▸ Option.some.inj h
    exact ⟨rfl, plain_ok (by decide), rfl, fun _ => rfl, fun s args h1 h2 => pm_T_of hl cl_all ar_all ik_X10_init ck_X10_init s args h2 (fun L xs h => by cases h)⟩
  · obtain ⟨rfl, rfl⟩ : C_X10_init = C ∧ 1 = nL := Prod.mk.injEq _ _ _ _ ▸ Option.some.inj h
    exact ⟨fun s args c h1 h2 h3 => hd_0_ok h3, fun h => (h rfl).elim⟩
theorem ok_92 (hl : l.stackTraces = false) : okMj l n0 sa sv 92 ∧ okHj n0 sa sv 92 := by
  refine ⟨fun C nL h => ?_, fun C nL h => ?_⟩
  · obtain ⟨rfl, rfl⟩ : C_X10_measure = C ∧ 9 = nL := Prod.mk.injEq _ _ _ _ ▸ Option.some.inj h
    exact ⟨rfl, plain_ok (by decide), rfl, (fun h => by cases h), fun s args h1 h2 => pm_T_of hl cl_all ar_all ik_X10_measure ck_X10_measure s args h2 (fun L xs h => by cases h)⟩
  · obtain ⟨rfl, rfl⟩ : C_X10_measure = C ∧ 9 = nL := Prod.mk.injEq _ _ _ _ ▸ Option.some.inj h
    exact ⟨fun s args c h1 h2 h3 => hd_0_ok h3, fun h => (h rfl).elim⟩
theorem ok_93 (hl : l.stackTraces = false) : okMj l n0 sa sv 93 ∧ okHj n0 sa sv 93 := by
  refine ⟨fun C nL h => ?_, fun C nL h => ?_⟩
  · obtain ⟨rfl, rfl⟩ : C_X10_firstStep = C ∧ 7 = nL := Prod.mk.injEq _ _ _ _ ▸ Option.some.inj h
    exact ⟨rfl, plain_ok (by decide), rfl, (fun h => by cases h), fun s args h1 h2 => pm_T_of hl cl_all ar_all ik_X10_firstStep ck_X10_firstStep s args h2 (fun L xs h => by cases h)⟩
  · obtain ⟨rfl, rfl⟩ : C_X10_firstStep = C ∧ 7 = nL := Prod.mk.injEq _ _ _ _ ▸ Option.some.inj h
    exact ⟨fun s args c h1 h2 h3 => hd_0_ok h3, fun h => (h rfl).elim⟩
theorem ok_94 (hl : l.stackTraces = false) : okMj l n0 sa sv 94 ∧ okHj n0 sa sv 94 := by
  refine ⟨fun C nL h => ?_, fun C nL h => ?_⟩
  · obtain ⟨rfl, rfl⟩ : C_X10_parts = C ∧ 8 = nL := Prod.mk.injEq _ _ _ _ ▸ Option.some.inj h
    exact ⟨rfl, plain_ok (by decide), rfl, (fun h => by cases h), fun s args h1 h2 => pm_T_of hl cl_all ar_all ik_X10_parts ck_X10_parts s args h2 (fun L xs h => by cases h)⟩
  · obtain ⟨rfl, rfl⟩ : C_X10_parts = C ∧ 8 = nL := Prod.mk.injEq _ _ _ _ ▸ Option.some.inj h
    exact ⟨fun s args c h1 h2 h3 => hd_0_ok h3, fun h => (h rfl).elim⟩
theorem ok_95 (hl : l.stackTraces = false) : okMj l n0 sa sv 95 ∧ okHj n0 sa sv 95 := by
  refine ⟨fun C nL h => ?_, fun C nL h => ?_⟩
  · obtain ⟨rfl, rfl⟩ : C_X10_seenFrom = C ∧ 8 = nL := Prod.mk.injEq _ _ _ _ ▸ Option.some.inj h
    exact ⟨rfl, plain_ok (by decide), rfl, (fun h => by cases h), fun s args h1 h2 => pm_T_of hl cl_all ar_all ik_X10_seenFrom ck_X10_seenFrom s args h2 (fun L xs h => by cases h)⟩
  · obtain ⟨rfl, rfl⟩ : C_X10_seenFrom = C ∧ 8 = nL := Prod.mk.injEq _ _ _ _ ▸ Option.some.inj h
    exact ⟨fun s args c h1 h2 h3 => hd_0_ok h3, fun h => (h rfl).elim⟩
theorem ok_96 (hl : l.stackTraces = false) : okMj l n0 sa sv 96 ∧ okHj n0 sa sv 96 := by
  refine ⟨fun C nL h => ?_, fun C nL h => ?_⟩
  · obtain ⟨rfl, rfl⟩ : C_X11_init = C ∧ 1 = nL := Prod.mk.injEq _ _ _ _ ▸ Option.some.inj h
    exact ⟨rfl, plain_ok (by decide), rfl, fun _ => rfl, fun s args h1 h2 => pm_T_of hl cl_all ar_all ik_X11_init ck_X11_init s args h2 (fun L xs h => by cases h)⟩
  · obtain ⟨rfl, rfl⟩ : C_X11_init = C ∧ 1 = nL := Prod.mk.injEq _ _ _ _ ▸ Option.some.inj h
    exact ⟨fun s args c h1 h2 h3 => hd_0_ok h3, fun h => (h rfl).elim⟩
theorem ok_97 (hl : l.stackTraces = false) : okMj l n0 sa sv 97 ∧ okHj n0 sa sv 97 := by
  refine ⟨fun C nL h => ?_, fun C nL h => ?_⟩
  · obtain ⟨rfl, rfl⟩ : C_X11_feed = C ∧ 6 = nL := Prod.mk.injEq _ _ _ _ ▸ Option.some.inj h
    exact ⟨rfl, plain_ok (by decide), rfl, (fun h => by cases h), fun s args h1 h2 => pm_T_of hl cl_all ar_all ik_X11_feed ck_X11_feed s args h2 (fun L xs h => by cases h)⟩
  · obtain ⟨rfl, rfl⟩ : C_X11_feed = C ∧ 6 = nL := Prod.mk.injEq _ _ _ _ ▸ Option.some.inj h
    exact ⟨fun s args c h1 h2 h3 => hd_0_ok h3, fun h => (h rfl).elim⟩
theorem ok_98 (hl : l.stackTraces = false) : okMj l n0 sa sv 98 ∧ okHj n0 sa sv 98 := by
  refine ⟨fun C nL h => ?_, fun C nL h => ?_⟩
  · obtain ⟨rfl, rfl⟩ : C_X11_town = C ∧ 4 = nL := Prod.mk.injEq _ _ _ _ ▸ Option.some.inj h
    exact ⟨rfl, plain_ok (by decide), rfl, (fun h => by cases h), fun s args h1 h2 => pm_T_of hl cl_all ar_all ik_X11_town ck_X11_town s args h2 (fun L xs h => by cases h)⟩
  · obtain ⟨rfl, rfl⟩ : C_X11_town = C ∧ 4 = nL := Prod.mk.injEq _ _ _ _ ▸ Option.some.inj h
    exact ⟨fun s args c h1 h2 h3 => hd_0_ok h3, fun h => (h rfl).elim⟩
theorem ok_99 (hl : l.stackTraces = false) : okMj l n0 sa sv 99 ∧ okHj n0 sa sv 99 := by
  refine ⟨fun C nL h => ?_, fun C nL h => ?_⟩
  · obtain ⟨rfl, rfl⟩ : C_X11_fault = C ∧ 1 = nL := Prod.mk.injEq _ _ _ _ ▸ Option.some.inj h
    exact ⟨rfl, plain_ok (by decide), rfl, (fun h => by cases h), fun s args h1 h2 => pm_T_of hl cl_all ar_all ik_X11_fault ck_X11_fault s args h2 (fun L xs h => by cases h)⟩
  · obtain ⟨rfl, rfl⟩ : C_X11_fault = C ∧ 1 = nL := Prod.mk.injEq _ _ _ _ ▸ Option.some.inj h
    exact ⟨fun s args c h1 h2 h3 => hd_0_ok h3, fun h => (h rfl).elim⟩
theorem ok_100 (hl : l.stackTraces = false) : okMj l n0 sa sv 100 ∧ okHj n0 sa sv 100 := by
  refine ⟨fun C nL h => ?_, fun C nL h => ?_⟩
  · obtain ⟨rfl, rfl⟩ : C_X11_count = C ∧ 2 = nL := Prod.mk.injEq _ _ _ _ ▸ Option.some.inj h
    exact ⟨rfl, plain_ok (by decide), rfl, (fun h => by cases h), fun s args h1 h2 => pm_T_of hl cl_all ar_all ik_X11_count ck_X11_count s args h2 (fun L xs h => by cases h)⟩
  · obtain ⟨rfl, rfl⟩ : C_X11_count = C ∧ 2 = nL := Prod.mk.injEq _ _ _ _ ▸ Option.some.inj h
    exact ⟨fun s args c h1 h2 h3 => hd_0_ok h3, fun h => (h rfl).elim⟩
theorem ok_101 (hl : l.stackTraces = false) : okMj l n0 sa sv 101 ∧ okHj n0 sa sv 101 := by
  refine ⟨fun C nL h => ?_, fun C nL h => ?_⟩
  · obtain ⟨rfl, rfl⟩ : C_X11_figure = C ∧ 3 = nL := Prod.mk.injEq _ _ _ _ ▸ Option.some.inj h
    exact ⟨rfl, plain_ok (by decide), rfl, (fun h => by cases h), fun s args h1 h2 => pm_T_of hl cl_all ar_all ik_X11_figure ck_X11_figure s args h2 (fun L xs h => by cases h)⟩
  · obtain ⟨rfl, rfl⟩ : C_X11_figure = C ∧ 3 = nL := Prod.mk.injEq _ _ _ _ ▸ Option.some.inj h
    exact ⟨fun s args c h1 h2 h3 => hd_0_ok h3, fun h => (h rfl).elim⟩
theorem ok_102 (hl : l.stackTraces = false) : okMj l n0 sa sv 102 ∧ okHj n0 sa sv 102 := by
  refine ⟨fun C nL h => ?_, fun C nL h => ?_⟩
  · obtain ⟨rfl, rfl⟩ : C_X11_cell = C ∧ 3 = nL := Prod.mk.injEq _ _ _ _ ▸ Option.some.inj h
    exact ⟨rfl, plain_ok (by decide), rfl, (fun h => by cases h), fun s args h1 h2 => pm_T_of hl cl_all ar_all ik_X11_cell ck_X11_cell s args h2 (fun L xs h => by cases h)⟩
  · obtain ⟨rfl, rfl⟩ : C_X11_cell = C ∧ 3 = nL := Prod.mk.injEq _ _ _ _ ▸ Option.some.inj h
    exact ⟨fun s args c h1 h2 h3 => hd_0_ok h3, fun h => (h rfl).elim⟩
theorem ok_103 (hl : l.stackTraces = false) : okMj l n0 sa sv 103 ∧ okHj n0 sa sv 103 := by
  refine ⟨fun C nL h => ?_, fun C nL h => ?_⟩
  · obtain ⟨rfl, rfl⟩ : C_X11_hours = C ∧ 2 = nL := Prod.mk.injEq _ _ _ _ ▸ Option.some.inj h
    exact ⟨rfl, plain_ok (by decide), rfl, (fun h => by cases h), fun s args h1 h2 => pm_T_of hl cl_all ar_all ik_X11_hours ck_X11_hours s args h2 (fun L xs h => by cases h)⟩
  · obtain ⟨rfl, rfl⟩ : C_X11_hours = C ∧ 2 = nL := Prod.mk.injEq _ _ _ _ ▸ Option.some.inj h
    exact ⟨fun s args c h1 h2 h3 => hd_0_ok h3, fun h => (h rfl).elim⟩
theorem ok_104 (hl : l.stackTraces = false) : okMj l n0 sa sv 104 ∧ okHj n0 sa sv 104 := by
  refine ⟨fun C nL h => ?_, fun C nL h => ?_⟩
  · obtain ⟨rfl, rfl⟩ : C_X11_stop = C ∧ 3 = nL := Prod.mk.injEq _ _ _ _ ▸ Option.some.inj h
    exact ⟨rfl, plain_ok (by decide), rfl, (fun h => by cases h), fun s args h1 h2 => pm_T_of hl cl_all ar_all ik_X11_stop ck_X11_stop s args h2 (fun L xs h => by cases h)⟩
  · obtain ⟨rfl, rfl⟩ : C_X11_stop = C ∧ 3 = nL := Prod.mk.injEq _ _ _ _ ▸ Option.some.inj h
    exact ⟨fun s args c h1 h2 h3 => hd_0_ok h3, fun h => (h rfl).elim⟩
theorem ok_105 (hl : l.stackTraces = false) : okMj l n0 sa sv 105 ∧ okHj n0 sa sv 105 := by
  refine ⟨fun C nL h => ?_, fun C nL h => ?_⟩
  · obtain ⟨rfl, rfl⟩ : C_X11_lift = C ∧ 4 = nL := Prod.mk.injEq _ _ _ _ ▸ Option.some.inj h
    exact ⟨rfl, plain_ok (by decide), rfl, (fun h => by cases h), fun s args h1 h2 => pm_T_of hl cl_all ar_all ik_X11_lift ck_X11_lift s args h2 (fun L xs h => by cases h)⟩
  · obtain ⟨rfl, rfl⟩ : C_X11_lift = C ∧ 4 = nL := Prod.mk.injEq _ _ _ _ ▸ Option.some.inj h
    exact ⟨fun s args c h1 h2 h3 => hd_0_ok h3, fun h => (h rfl).elim⟩
theorem ok_106 (hl : l.stackTraces = false) : okMj l n0 sa sv 106 ∧ okHj n0 sa sv 106 := by
  refine ⟨fun C nL h => ?_, fun C nL h => ?_⟩
  · obtain ⟨rfl, rfl⟩ : C_X11_brush = C ∧ 3 = nL := Prod.mk.injEq _ _ _ _ ▸ Option.some.inj h
    exact ⟨rfl, plain_ok (by decide), rfl, (fun h => by cases h), fun s args h1 h2 => pm_T_of hl cl_all ar_all ik_X11_brush ck_X11_brush s args h2 (fun L xs h => by cases h)⟩
  · obtain ⟨rfl, rfl⟩ : C_X11_brush = C ∧ 3 = nL := Prod.mk.injEq _ _ _ _ ▸ Option.some.inj h
    exact ⟨fun s args c h1 h2 h3 => hd_0_ok h3, fun h => (h rfl).elim⟩
theorem ok_107 (hl : l.stackTraces = false) : okMj l n0 sa sv 107 ∧ okHj n0 sa sv 107 := by
  refine ⟨fun C nL h => ?_, fun C nL h => ?_⟩
  · obtain ⟨rfl, rfl⟩ : C_X11_wall = C ∧ 3 = nL := Prod.mk.injEq _ _ _ _ ▸ Option.some.inj h
    exact ⟨rfl, plain_ok (by decide), rfl, (fun h => by cases h), fun s args h1 h2 => pm_T_of hl cl_all ar_all ik_X11_wall ck_X11_wall s args h2 (fun L xs h => by cases h)⟩
  · obtain ⟨rfl, rfl⟩ : C_X11_wall = C ∧ 3 = nL := Prod.mk.injEq _ _ _ _ ▸ Option.some.inj h
    exact ⟨fun s args c h1 h2 h3 => hd_0_ok h3, fun h => (h rfl).elim⟩
theorem ok_108 (hl : l.stackTraces = false) : okMj l n0 sa sv 108 ∧ okHj n0 sa sv 108 := by
  refine ⟨fun C nL h => ?_, fun C nL h => ?_⟩
  · obtain ⟨rfl, rfl⟩ : C_X11_undo = C ∧ 1 = nL := Prod.mk.injEq _ _ _ _ ▸ Option.some.inj h
    exact ⟨rfl, plain_ok (by decide), rfl, (fun h => by cases h), fun s args h1 h2 => pm_T_of hl cl_all ar_all ik_X11_undo ck_X11_undo s args h2 (fun L xs h => by cases h)⟩
  · obtain ⟨rfl, rfl⟩ : C_X11_undo = C ∧ 1 = nL := Prod.mk.injEq _ _ _ _ ▸ Option.some.inj h
    exact ⟨fun s args c h1 h2 h3 => hd_0_ok h3, fun h => (h rfl).elim⟩
theorem ok_109 (hl : l.stackTraces = false) : okMj l n0 sa sv 109 ∧ okHj n0 sa sv 109 := by
  refine ⟨fun C nL h => ?_, fun C nL h => ?_⟩
  · obtain ⟨rfl, rfl⟩ : C_X11_then = C ∧ 4 = nL := Prod.mk.injEq _ _ _ _ ▸ Option.some.inj h
    exact ⟨rfl, plain_ok (by decide), rfl, (fun h => by cases h), fun s args h1 h2 => pm_T_of hl cl_all ar_all ik_X11_then ck_X11_then s args h2 (fun L xs h => by cases h)⟩
  · obtain ⟨rfl, rfl⟩ : C_X11_then = C ∧ 4 = nL := Prod.mk.injEq _ _ _ _ ▸ Option.some.inj h
    exact ⟨fun s args c h1 h2 h3 => hd_0_ok h3, fun h => (h rfl).elim⟩
theorem ok_110 (hl : l.stackTraces = false) : okMj l n0 sa sv 110 ∧ okHj n0 sa sv 110 := by
  refine ⟨fun C nL h => ?_, fun C nL h => ?_⟩
  · obtain ⟨rfl, rfl⟩ : C_X11_comes = C ∧ 4 = nL := Prod.mk.injEq _ _ _ _ ▸ Option.some.inj h
    exact ⟨rfl, plain_ok (by decide), rfl, (fun h => by cases h), fun s args h1 h2 => pm_T_of hl cl_all ar_all ik_X11_comes ck_X11_comes s args h2 (fun L xs h => by cases h)⟩
  · obtain ⟨rfl, rfl⟩ : C_X11_comes = C ∧ 4 = nL := Prod.mk.injEq _ _ _ _ ▸ Option.some.inj h
    exact ⟨fun s args c h1 h2 h3 => hd_0_ok h3, fun h => (h rfl).elim⟩
theorem ok_111 (hl : l.stackTraces = false) : okMj l n0 sa sv 111 ∧ okHj n0 sa sv 111 := by
  refine ⟨fun C nL h => ?_, fun C nL h => ?_⟩
  · obtain ⟨rfl, rfl⟩ : C_X11_meet = C ∧ 4 = nL := Prod.mk.injEq _ _ _ _ ▸ Option.some.inj h
    exact ⟨rfl, plain_ok (by decide), rfl, (fun h => by cases h), fun s args h1 h2 => pm_T_of hl cl_all ar_all ik_X11_meet ck_X11_meet s args h2 (fun L xs h => by cases h)⟩
  · obtain ⟨rfl, rfl⟩ : C_X11_meet = C ∧ 4 = nL := Prod.mk.injEq _ _ _ _ ▸ Option.some.inj h
    exact ⟨fun s args c h1 h2 h3 => hd_0_ok h3, fun h => (h rfl).elim⟩
theorem ok_112 (hl : l.stackTraces = false) : okMj l n0 sa sv 112 ∧ okHj n0 sa sv 112 := by
  refine ⟨fun C nL h => ?_, fun C nL h => ?_⟩
  · obtain ⟨rfl, rfl⟩ : C_X11_crowd = C ∧ 7 = nL := Prod.mk.injEq _ _ _ _ ▸ Option.some.inj h
    exact ⟨rfl, plain_ok (by decide), rfl, (fun h => by cases h), fun s args h1 h2 => pm_T_of hl cl_all ar_all ik_X11_crowd ck_X11_crowd s args h2 (fun L xs h => by cases h)⟩
  · obtain ⟨rfl, rfl⟩ : C_X11_crowd = C ∧ 7 = nL := Prod.mk.injEq _ _ _ _ ▸ Option.some.inj h
    exact ⟨fun s args c h1 h2 h3 => hd_0_ok h3, fun h => (h rfl).elim⟩
theorem ok_113 (hl : l.stackTraces = false) : okMj l n0 sa sv 113 ∧ okHj n0 sa sv 113 := by
  refine ⟨fun C nL h => ?_, fun C nL h => ?_⟩
  · obtain ⟨rfl, rfl⟩ : C_X11_round = C ∧ 2 = nL := Prod.mk.injEq _ _ _ _ ▸ Option.some.inj h
    exact ⟨rfl, plain_ok (by decide), rfl, (fun h => by cases h), fun s args h1 h2 => pm_T_of hl cl_all ar_all ik_X11_round ck_X11_round s args h2 (fun L xs h => by cases h)⟩
  · obtain ⟨rfl, rfl⟩ : C_X11_round = C ∧ 2 = nL := Prod.mk.injEq _ _ _ _ ▸ Option.some.inj h
    exact ⟨fun s args c h1 h2 h3 => hd_0_ok h3, fun h => (h rfl).elim⟩
theorem ok_114 (hl : l.stackTraces = false) : okMj l n0 sa sv 114 ∧ okHj n0 sa sv 114 := by
  refine ⟨fun C nL h => ?_, fun C nL h => ?_⟩
  · obtain ⟨rfl, rfl⟩ : C_X11_spread = C ∧ 6 = nL := Prod.mk.injEq _ _ _ _ ▸ Option.some.inj h
    exact ⟨rfl, plain_ok (by decide), rfl, (fun h => by cases h), fun s args h1 h2 => pm_T_of hl cl_all ar_all ik_X11_spread ck_X11_spread s args h2 (fun L xs h => by cases h)⟩
  · obtain ⟨rfl, rfl⟩ : C_X11_spread = C ∧ 6 = nL := Prod.mk.injEq _ _ _ _ ▸ Option.some.inj h
    exact ⟨fun s args c h1 h2 h3 => hd_0_ok h3, fun h => (h rfl).elim⟩
theorem ok_115 (hl : l.stackTraces = false) : okMj l n0 sa sv 115 ∧ okHj n0 sa sv 115 := by
  refine ⟨fun C nL h => ?_, fun C nL h => ?_⟩
  · obtain ⟨rfl, rfl⟩ : C_X11_way = C ∧ 4 = nL := Prod.mk.injEq _ _ _ _ ▸ Option.some.inj h
    exact ⟨rfl, plain_ok (by decide), rfl, (fun h => by cases h), fun s args h1 h2 => pm_T_of hl cl_all ar_all ik_X11_way ck_X11_way s args h2 (fun L xs h => by cases h)⟩
  · obtain ⟨rfl, rfl⟩ : C_X11_way = C ∧ 4 = nL := Prod.mk.injEq _ _ _ _ ▸ Option.some.inj h
    exact ⟨fun s args c h1 h2 h3 => hd_0_ok h3, fun h => (h rfl).elim⟩
theorem ok_116 (hl : l.stackTraces = false) : okMj l n0 sa sv 116 ∧ okHj n0 sa sv 116 := by
  refine ⟨fun C nL h => ?_, fun C nL h => ?_⟩
  · obtain ⟨rfl, rfl⟩ : C_X11_toStop = C ∧ 5 = nL := Prod.mk.injEq _ _ _ _ ▸ Option.some.inj h
    exact ⟨rfl, plain_ok (by decide), rfl, (fun h => by cases h), fun s args h1 h2 => pm_T_of hl cl_all ar_all ik_X11_toStop ck_X11_toStop s args h2 (fun L xs h => by cases h)⟩
  · obtain ⟨rfl, rfl⟩ : C_X11_toStop = C ∧ 5 = nL := Prod.mk.injEq _ _ _ _ ▸ Option.some.inj h
    exact ⟨fun s args c h1 h2 h3 => hd_0_ok h3, fun h => (h rfl).elim⟩
theorem ok_117 (hl : l.stackTraces = false) : okMj l n0 sa sv 117 ∧ okHj n0 sa sv 117 := by
  refine ⟨fun C nL h => ?_, fun C nL h => ?_⟩
  · obtain ⟨rfl, rfl⟩ : C_X11_toThin = C ∧ 4 = nL := Prod.mk.injEq _ _ _ _ ▸ Option.some.inj h
    exact ⟨rfl, plain_ok (by decide), rfl, (fun h => by cases h), fun s args h1 h2 => pm_T_of hl cl_all ar_all ik_X11_toThin ck_X11_toThin s args h2 (fun L xs h => by cases h)⟩
  · obtain ⟨rfl, rfl⟩ : C_X11_toThin = C ∧ 4 = nL := Prod.mk.injEq _ _ _ _ ▸ Option.some.inj h
    exact ⟨fun s args c h1 h2 h3 => hd_0_ok h3, fun h => (h rfl).elim⟩
theorem ok_118 (hl : l.stackTraces = false) : okMj l n0 sa sv 118 ∧ okHj n0 sa sv 118 := by
  refine ⟨fun C nL h => ?_, fun C nL h => ?_⟩
  · obtain ⟨rfl, rfl⟩ : C_X11_seats = C ∧ 2 = nL := Prod.mk.injEq _ _ _ _ ▸ Option.some.inj h
    exact ⟨rfl, plain_ok (by decide), rfl, (fun h => by cases h), fun s args h1 h2 => pm_T_of hl cl_all ar_all ik_X11_seats ck_X11_seats s args h2 (fun L xs h => by cases h)⟩
  · obtain ⟨rfl, rfl⟩ : C_X11_seats = C ∧ 2 = nL := Prod.mk.injEq _ _ _ _ ▸ Option.some.inj h
    exact ⟨fun s args c h1 h2 h3 => hd_0_ok h3, fun h => (h rfl).elim⟩
theorem ok_119 (hl : l.stackTraces = false) : okMj l n0 sa sv 119 ∧ okHj n0 sa sv 119 := by
  refine ⟨fun C nL h => ?_, fun C nL h => ?_⟩
  · obtain ⟨rfl, rfl⟩ : C_X11_seat = C ∧ 2 = nL := Prod.mk.injEq _ _ _ _ ▸ Option.some.inj h
    exact ⟨rfl, plain_ok (by decide), rfl, (fun h => by cases h), fun s args h1 h2 => pm_T_of hl cl_all ar_all ik_X11_seat ck_X11_seat s args h2 (fun L xs h => by cases h)⟩
  · obtain ⟨rfl, rfl⟩ : C_X11_seat = C ∧ 2 = nL := Prod.mk.injEq _ _ _ _ ▸ Option.some.inj h
    exact ⟨fun s args c h1 h2 h3 => hd_0_ok h3, fun h => (h rfl).elim⟩
theorem ok_120 (hl : l.stackTraces = false) : okMj l n0 sa sv 120 ∧ okHj n0 sa sv 120 := by
  refine ⟨fun C nL h => ?_, fun C nL h => ?_⟩
  · obtain ⟨rfl, rfl⟩ : C_X11_note = C ∧ 4 = nL := Prod.mk.injEq _ _ _ _ ▸ Option.some.inj h
    exact ⟨rfl, plain_ok (by decide), rfl, (fun h => by cases h), fun s args h1 h2 => pm_T_of hl cl_all ar_all ik_X11_note ck_X11_note s args h2 (fun L xs h => by cases h)⟩
  · obtain ⟨rfl, rfl⟩ : C_X11_note = C ∧ 4 = nL := Prod.mk.injEq _ _ _ _ ▸ Option.some.inj h
    exact ⟨fun s args c h1 h2 h3 => hd_0_ok h3, fun h => (h rfl).elim⟩
theorem ok_121 (hl : l.stackTraces = false) : okMj l n0 sa sv 121 ∧ okHj n0 sa sv 121 := by
  refine ⟨fun C nL h => ?_, fun C nL h => ?_⟩
  · obtain ⟨rfl, rfl⟩ : C_X11_forget = C ∧ 1 = nL := Prod.mk.injEq _ _ _ _ ▸ Option.some.inj h
    exact ⟨rfl, plain_ok (by decide), rfl, (fun h => by cases h), fun s args h1 h2 => pm_T_of hl cl_all ar_all ik_X11_forget ck_X11_forget s args h2 (fun L xs h => by cases h)⟩
  · obtain ⟨rfl, rfl⟩ : C_X11_forget = C ∧ 1 = nL := Prod.mk.injEq _ _ _ _ ▸ Option.some.inj h
    exact ⟨fun s args c h1 h2 h3 => hd_0_ok h3, fun h => (h rfl).elim⟩
theorem ok_122 (hl : l.stackTraces = false) : okMj l n0 sa sv 122 ∧ okHj n0 sa sv 122 := by
  refine ⟨fun C nL h => ?_, fun C nL h => ?_⟩
  · obtain ⟨rfl, rfl⟩ : C_X11_ahead = C ∧ 2 = nL := Prod.mk.injEq _ _ _ _ ▸ Option.some.inj h
    exact ⟨rfl, plain_ok (by decide), rfl, (fun h => by cases h), fun s args h1 h2 => pm_T_of hl cl_all ar_all ik_X11_ahead ck_X11_ahead s args h2 (fun L xs h => by cases h)⟩
  · obtain ⟨rfl, rfl⟩ : C_X11_ahead = C ∧ 2 = nL := Prod.mk.injEq _ _ _ _ ▸ Option.some.inj h
    exact ⟨fun s args c h1 h2 h3 => hd_0_ok h3, fun h => (h rfl).elim⟩
theorem ok_123 (hl : l.stackTraces = false) : okMj l n0 sa sv 123 ∧ okHj n0 sa sv 123 := by
  refine ⟨fun C nL h => ?_, fun C nL h => ?_⟩
  · obtain ⟨rfl, rfl⟩ : C_X11_look = C ∧ 6 = nL := Prod.mk.injEq _ _ _ _ ▸ Option.some.inj h
    exact ⟨rfl, plain_ok (by decide), rfl, (fun h => by cases h), fun s args h1 h2 => pm_T_of hl cl_all ar_all ik_X11_look ck_X11_look s args h2 (fun L xs h => by cases h)⟩
  · obtain ⟨rfl, rfl⟩ : C_X11_look = C ∧ 6 = nL := Prod.mk.injEq _ _ _ _ ▸ Option.some.inj h
    exact ⟨fun s args c h1 h2 h3 => hd_0_ok h3, fun h => (h rfl).elim⟩
theorem ok_124 (hl : l.stackTraces = false) : okMj l n0 sa sv 124 ∧ okHj n0 sa sv 124 := by
  refine ⟨fun C nL h => ?_, fun C nL h => ?_⟩
  · obtain ⟨rfl, rfl⟩ : C_X11_clouds = C ∧ 10 = nL := Prod.mk.injEq _ _ _ _ ▸ Option.some.inj h
    exact ⟨rfl, plain_ok (by decide), rfl, (fun h => by cases h), fun s args h1 h2 => pm_T_of hl cl_all ar_all ik_X11_clouds ck_X11_clouds s args h2 (fun L xs h => by cases h)⟩
  · obtain ⟨rfl, rfl⟩ : C_X11_clouds = C ∧ 10 = nL := Prod.mk.injEq _ _ _ _ ▸ Option.some.inj h
    exact ⟨fun s args c h1 h2 h3 => hd_0_ok h3, fun h => (h rfl).elim⟩
theorem ok_125 (hl : l.stackTraces = false) : okMj l n0 sa sv 125 ∧ okHj n0 sa sv 125 := by
  refine ⟨fun C nL h => ?_, fun C nL h => ?_⟩
  · obtain ⟨rfl, rfl⟩ : C_X11_game = C ∧ 7 = nL := Prod.mk.injEq _ _ _ _ ▸ Option.some.inj h
    exact ⟨rfl, plain_ok (by decide), rfl, (fun h => by cases h), fun s args h1 h2 => pm_T_of hl cl_all ar_all ik_X11_game ck_X11_game s args h2 (fun L xs h => by cases h)⟩
  · obtain ⟨rfl, rfl⟩ : C_X11_game = C ∧ 7 = nL := Prod.mk.injEq _ _ _ _ ▸ Option.some.inj h
    exact ⟨fun s args c h1 h2 h3 => hd_0_ok h3, fun h => (h rfl).elim⟩
theorem ok_126 (hl : l.stackTraces = false) : okMj l n0 sa sv 126 ∧ okHj n0 sa sv 126 := by
  refine ⟨fun C nL h => ?_, fun C nL h => ?_⟩
  · obtain ⟨rfl, rfl⟩ : C_X11_years = C ∧ 6 = nL := Prod.mk.injEq _ _ _ _ ▸ Option.some.inj h
    exact ⟨rfl, plain_ok (by decide), rfl, (fun h => by cases h), fun s args h1 h2 => pm_T_of hl cl_all ar_all ik_X11_years ck_X11_years s args h2 (fun L xs h => by cases h)⟩
  · obtain ⟨rfl, rfl⟩ : C_X11_years = C ∧ 6 = nL := Prod.mk.injEq _ _ _ _ ▸ Option.some.inj h
    exact ⟨fun s args c h1 h2 h3 => hd_0_ok h3, fun h => (h rfl).elim⟩
theorem ok_127 (hl : l.stackTraces = false) : okMj l n0 sa sv 127 ∧ okHj n0 sa sv 127 := by
  refine ⟨fun C nL h => ?_, fun C nL h => ?_⟩
  · obtain ⟨rfl, rfl⟩ : C_X11_later = C ∧ 3 = nL := Prod.mk.injEq _ _ _ _ ▸ Option.some.inj h
    exact ⟨rfl, plain_ok (by decide), rfl, (fun h => by cases h), fun s args h1 h2 => pm_T_of hl cl_all ar_all ik_X11_later ck_X11_later s args h2 (fun L xs h => by cases h)⟩
  · obtain ⟨rfl, rfl⟩ : C_X11_later = C ∧ 3 = nL := Prod.mk.injEq _ _ _ _ ▸ Option.some.inj h
    exact ⟨fun s args c h1 h2 h3 => hd_0_ok h3, fun h => (h rfl).elim⟩
theorem ok_128 (hl : l.stackTraces = false) : okMj l n0 sa sv 128 ∧ okHj n0 sa sv 128 := by
  refine ⟨fun C nL h => ?_, fun C nL h => ?_⟩
  · obtain ⟨rfl, rfl⟩ : C_X11_together = C ∧ 6 = nL := Prod.mk.injEq _ _ _ _ ▸ Option.some.inj h
    exact ⟨rfl, plain_ok (by decide), rfl, (fun h => by cases h), fun s args h1 h2 => pm_T_of hl cl_all ar_all ik_X11_together ck_X11_together s args h2 (fun L xs h => by cases h)⟩
  · obtain ⟨rfl, rfl⟩ : C_X11_together = C ∧ 6 = nL := Prod.mk.injEq _ _ _ _ ▸ Option.some.inj h
    exact ⟨fun s args c h1 h2 h3 => hd_0_ok h3, fun h => (h rfl).elim⟩
theorem ok_129 (hl : l.stackTraces = false) : okMj l n0 sa sv 129 ∧ okHj n0 sa sv 129 := by
  refine ⟨fun C nL h => ?_, fun C nL h => ?_⟩
  · obtain ⟨rfl, rfl⟩ : C_X11_quiet = C ∧ 5 = nL := Prod.mk.injEq _ _ _ _ ▸ Option.some.inj h
    exact ⟨rfl, plain_ok (by decide), rfl, (fun h => by cases h), fun s args h1 h2 => pm_T_of hl cl_all ar_all ik_X11_quiet ck_X11_quiet s args h2 (fun L xs h => by cases h)⟩
  · obtain ⟨rfl, rfl⟩ : C_X11_quiet = C ∧ 5 = nL := Prod.mk.injEq _ _ _ _ ▸ Option.some.inj h
    exact ⟨fun s args c h1 h2 h3 => hd_0_ok h3, fun h => (h rfl).elim⟩
theorem ok_130 (hl : l.stackTraces = false) : okMj l n0 sa sv 130 ∧ okHj n0 sa sv 130 := by
  refine ⟨fun C nL h => ?_, fun C nL h => ?_⟩
  · obtain ⟨rfl, rfl⟩ : C_X11_gone = C ∧ 6 = nL := Prod.mk.injEq _ _ _ _ ▸ Option.some.inj h
    exact ⟨rfl, plain_ok (by decide), rfl, (fun h => by cases h), fun s args h1 h2 => pm_T_of hl cl_all ar_all ik_X11_gone ck_X11_gone s args h2 (fun L xs h => by cases h)⟩
  · obtain ⟨rfl, rfl⟩ : C_X11_gone = C ∧ 6 = nL := Prod.mk.injEq _ _ _ _ ▸ Option.some.inj h
    exact ⟨fun s args c h1 h2 h3 => hd_0_ok h3, fun h => (h rfl).elim⟩
theorem ok_131 (hl : l.stackTraces = false) : okMj l n0 sa sv 131 ∧ okHj n0 sa sv 131 := by
  refine ⟨fun C nL h => ?_, fun C nL h => ?_⟩
  · obtain ⟨rfl, rfl⟩ : C_X11_image = C ∧ 1 = nL := Prod.mk.injEq _ _ _ _ ▸ Option.some.inj h
    exact ⟨rfl, plain_ok (by decide), rfl, (fun h => by cases h), fun s args h1 h2 => pm_T_of hl cl_all ar_all ik_X11_image ck_X11_image s args h2 (fun L xs h => by cases h)⟩
  · obtain ⟨rfl, rfl⟩ : C_X11_image = C ∧ 1 = nL := Prod.mk.injEq _ _ _ _ ▸ Option.some.inj h
    exact ⟨fun s args c h1 h2 h3 => hd_0_ok h3, fun h => (h rfl).elim⟩
theorem ok_132 (hl : l.stackTraces = false) : okMj l n0 sa sv 132 ∧ okHj n0 sa sv 132 := by
  refine ⟨fun C nL h => ?_, fun C nL h => ?_⟩
  · obtain ⟨rfl, rfl⟩ : C_X11_restore = C ∧ 1 = nL := Prod.mk.injEq _ _ _ _ ▸ Option.some.inj h
    exact ⟨rfl, plain_ok (by decide), rfl, (fun h => by cases h), fun s args h1 h2 => pm_T_of hl cl_all ar_all ik_X11_restore ck_X11_restore s args h2 (fun L xs h => by cases h)⟩
  · obtain ⟨rfl, rfl⟩ : C_X11_restore = C ∧ 1 = nL := Prod.mk.injEq _ _ _ _ ▸ Option.some.inj h
    exact ⟨fun s args c h1 h2 h3 => hd_0_ok h3, fun h => (h rfl).elim⟩
theorem ok_133 (hl : l.stackTraces = false) : okMj l n0 sa sv 133 ∧ okHj n0 sa sv 133 := by
  refine ⟨fun C nL h => ?_, fun C nL h => ?_⟩
  · obtain ⟨rfl, rfl⟩ : C_X11_checkFigure = C ∧ 2 = nL := Prod.mk.injEq _ _ _ _ ▸ Option.some.inj h
    exact ⟨rfl, plain_ok (by decide), rfl, (fun h => by cases h), fun s args h1 h2 => pm_T_of hl cl_all ar_all ik_X11_checkFigure ck_X11_checkFigure s args h2 (fun L xs h => by cases h)⟩
  · obtain ⟨rfl, rfl⟩ : C_X11_checkFigure = C ∧ 2 = nL := Prod.mk.injEq _ _ _ _ ▸ Option.some.inj h
    exact ⟨fun s args c h1 h2 h3 => hd_0_ok h3, fun h => (h rfl).elim⟩
theorem ok_134 (hl : l.stackTraces = false) : okMj l n0 sa sv 134 ∧ okHj n0 sa sv 134 := by
  refine ⟨fun C nL h => ?_, fun C nL h => ?_⟩
  · obtain ⟨rfl, rfl⟩ : C_X11_checkCell = C ∧ 2 = nL := Prod.mk.injEq _ _ _ _ ▸ Option.some.inj h
    exact ⟨rfl, plain_ok (by decide), rfl, (fun h => by cases h), fun s args h1 h2 => pm_T_of hl cl_all ar_all ik_X11_checkCell ck_X11_checkCell s args h2 (fun L xs h => by cases h)⟩
  · obtain ⟨rfl, rfl⟩ : C_X11_checkCell = C ∧ 2 = nL := Prod.mk.injEq _ _ _ _ ▸ Option.some.inj h
    exact ⟨fun s args c h1 h2 h3 => hd_0_ok h3, fun h => (h rfl).elim⟩
theorem ok_135 (hl : l.stackTraces = false) : okMj l n0 sa sv 135 ∧ okHj n0 sa sv 135 := by
  refine ⟨fun C nL h => ?_, fun C nL h => ?_⟩
  · obtain ⟨rfl, rfl⟩ : C_X11_checkWhat = C ∧ 2 = nL := Prod.mk.injEq _ _ _ _ ▸ Option.some.inj h
    exact ⟨rfl, plain_ok (by decide), rfl, (fun h => by cases h), fun s args h1 h2 => pm_T_of hl cl_all ar_all ik_X11_checkWhat ck_X11_checkWhat s args h2 (fun L xs h => by cases h)⟩
  · obtain ⟨rfl, rfl⟩ : C_X11_checkWhat = C ∧ 2 = nL := Prod.mk.injEq _ _ _ _ ▸ Option.some.inj h
    exact ⟨fun s args c h1 h2 h3 => hd_0_ok h3, fun h => (h rfl).elim⟩
theorem ok_136 (hl : l.stackTraces = false) : okMj l n0 sa sv 136 ∧ okHj n0 sa sv 136 := by
  refine ⟨fun C nL h => ?_, fun C nL h => ?_⟩
  · obtain ⟨rfl, rfl⟩ : C_X11_checkHours = C ∧ 3 = nL := Prod.mk.injEq _ _ _ _ ▸ Option.some.inj h
    exact ⟨rfl, plain_ok (by decide), rfl, (fun h => by cases h), fun s args h1 h2 => pm_T_of hl cl_all ar_all ik_X11_checkHours ck_X11_checkHours s args h2 (fun L xs h => by cases h)⟩
  · obtain ⟨rfl, rfl⟩ : C_X11_checkHours = C ∧ 3 = nL := Prod.mk.injEq _ _ _ _ ▸ Option.some.inj h
    exact ⟨fun s args c h1 h2 h3 => hd_0_ok h3, fun h => (h rfl).elim⟩
theorem ok_137 (hl : l.stackTraces = false) : okMj l n0 sa sv 137 ∧ okHj n0 sa sv 137 := by
  refine ⟨fun C nL h => ?_, fun C nL h => ?_⟩
  · obtain ⟨rfl, rfl⟩ : C_X11_refuseAct = C ∧ 1 = nL := Prod.mk.injEq _ _ _ _ ▸ Option.some.inj h
    exact ⟨rfl, plain_ok (by decide), rfl, (fun h => by cases h), fun s args h1 h2 => pm_T_of hl cl_all ar_all ik_X11_refuseAct ck_X11_refuseAct s args h2 (fun L xs h => by cases h)⟩
  · obtain ⟨rfl, rfl⟩ : C_X11_refuseAct = C ∧ 1 = nL := Prod.mk.injEq _ _ _ _ ▸ Option.some.inj h
    exact ⟨fun s args c h1 h2 h3 => hd_0_ok h3, fun h => (h rfl).elim⟩
theorem ok_138 (hl : l.stackTraces = false) : okMj l n0 sa sv 138 ∧ okHj n0 sa sv 138 := by
  refine ⟨fun C nL h => ?_, fun C nL h => ?_⟩
  · obtain ⟨rfl, rfl⟩ : C_X11_pay = C ∧ 2 = nL := Prod.mk.injEq _ _ _ _ ▸ Option.some.inj h
    exact ⟨rfl, plain_ok (by decide), rfl, (fun h => by cases h), fun s args h1 h2 => pm_T_of hl cl_all ar_all ik_X11_pay ck_X11_pay s args h2 (fun L xs h => by cases h)⟩
  · obtain ⟨rfl, rfl⟩ : C_X11_pay = C ∧ 2 = nL := Prod.mk.injEq _ _ _ _ ▸ Option.some.inj h
    exact ⟨fun s args c h1 h2 h3 => hd_0_ok h3, fun h => (h rfl).elim⟩
theorem ok_139 (hl : l.stackTraces = false) : okMj l n0 sa sv 139 ∧ okHj n0 sa sv 139 := by
  refine ⟨fun C nL h => ?_, fun C nL h => ?_⟩
  · obtain ⟨rfl, rfl⟩ : C_X11_foresee = C ∧ 2 = nL := Prod.mk.injEq _ _ _ _ ▸ Option.some.inj h
    exact ⟨rfl, plain_ok (by decide), rfl, (fun h => by cases h), fun s args h1 h2 => pm_T_of hl cl_all ar_all ik_X11_foresee ck_X11_foresee s args h2 (fun L xs h => by cases h)⟩
  · obtain ⟨rfl, rfl⟩ : C_X11_foresee = C ∧ 2 = nL := Prod.mk.injEq _ _ _ _ ▸ Option.some.inj h
    exact ⟨fun s args c h1 h2 h3 => hd_0_ok h3, fun h => (h rfl).elim⟩
theorem ok_140 (hl : l.stackTraces = false) : okMj l n0 sa sv 140 ∧ okHj n0 sa sv 140 := by
  refine ⟨fun C nL h => ?_, fun C nL h => ?_⟩
  · obtain ⟨rfl, rfl⟩ : C_X11_passFuture = C ∧ 1 = nL := Prod.mk.injEq _ _ _ _ ▸ Option.some.inj h
    exact ⟨rfl, plain_ok (by decide), rfl, (fun h => by cases h), fun s args h1 h2 => pm_T_of hl cl_all ar_all ik_X11_passFuture ck_X11_passFuture s args h2 (fun L xs h => by cases h)⟩
  · obtain ⟨rfl, rfl⟩ : C_X11_passFuture = C ∧ 1 = nL := Prod.mk.injEq _ _ _ _ ▸ Option.some.inj h
    exact ⟨fun s args c h1 h2 h3 => hd_0_ok h3, fun h => (h rfl).elim⟩
theorem ok_141 (hl : l.stackTraces = false) : okMj l n0 sa sv 141 ∧ okHj n0 sa sv 141 := by
  refine ⟨fun C nL h => ?_, fun C nL h => ?_⟩
  · obtain ⟨rfl, rfl⟩ : C_X11_addMeetings = C ∧ 2 = nL := Prod.mk.injEq _ _ _ _ ▸ Option.some.inj h
    exact ⟨rfl, plain_ok (by decide), rfl, (fun h => by cases h), fun s args h1 h2 => pm_T_of hl cl_all ar_all ik_X11_addMeetings ck_X11_addMeetings s args h2 (fun L xs h => by cases h)⟩
  · obtain ⟨rfl, rfl⟩ : C_X11_addMeetings = C ∧ 2 = nL := Prod.mk.injEq _ _ _ _ ▸ Option.some.inj h
    exact ⟨fun s args c h1 h2 h3 => hd_0_ok h3, fun h => (h rfl).elim⟩
theorem ok_142 (hl : l.stackTraces = false) : okMj l n0 sa sv 142 ∧ okHj n0 sa sv 142 := by
  refine ⟨fun C nL h => ?_, fun C nL h => ?_⟩
  · obtain ⟨rfl, rfl⟩ : C_X11_noneMeets = C ∧ 3 = nL := Prod.mk.injEq _ _ _ _ ▸ Option.some.inj h
    exact ⟨rfl, plain_ok (by decide), rfl, (fun h => by cases h), fun s args h1 h2 => pm_T_of hl cl_all ar_all ik_X11_noneMeets ck_X11_noneMeets s args h2 (fun L xs h => by cases h)⟩
  · obtain ⟨rfl, rfl⟩ : C_X11_noneMeets = C ∧ 3 = nL := Prod.mk.injEq _ _ _ _ ▸ Option.some.inj h
    exact ⟨fun s args c h1 h2 h3 => hd_0_ok h3, fun h => (h rfl).elim⟩
theorem ok_143 (hl : l.stackTraces = false) : okMj l n0 sa sv 143 ∧ okHj n0 sa sv 143 := by
  refine ⟨fun C nL h => ?_, fun C nL h => ?_⟩
  · obtain ⟨rfl, rfl⟩ : C_X11_play = C ∧ 7 = nL := Prod.mk.injEq _ _ _ _ ▸ Option.some.inj h
    exact ⟨rfl, plain_ok (by decide), rfl, (fun h => by cases h), fun s args h1 h2 => pm_T_of hl cl_all ar_all ik_X11_play ck_X11_play s args h2 (fun L xs h => by cases h)⟩
  · obtain ⟨rfl, rfl⟩ : C_X11_play = C ∧ 7 = nL := Prod.mk.injEq _ _ _ _ ▸ Option.some.inj h
    exact ⟨fun s args c h1 h2 h3 => hd_0_ok h3, fun h => (h rfl).elim⟩
theorem ok_144 (hl : l.stackTraces = false) : okMj l n0 sa sv 144 ∧ okHj n0 sa sv 144 := by
  refine ⟨fun C nL h => ?_, fun C nL h => ?_⟩
  · obtain ⟨rfl, rfl⟩ : C_X11_rests = C ∧ 3 = nL := Prod.mk.injEq _ _ _ _ ▸ Option.some.inj h
    exact ⟨rfl, plain_ok (by decide), rfl, (fun h => by cases h), fun s args h1 h2 => pm_T_of hl cl_all ar_all ik_X11_rests ck_X11_rests s args h2 (fun L xs h => by cases h)⟩
  · obtain ⟨rfl, rfl⟩ : C_X11_rests = C ∧ 3 = nL := Prod.mk.injEq _ _ _ _ ▸ Option.some.inj h
    exact ⟨fun s args c h1 h2 h3 => hd_0_ok h3, fun h => (h rfl).elim⟩
theorem ok_145 (hl : l.stackTraces = false) : okMj l n0 sa sv 145 ∧ okHj n0 sa sv 145 := by
  refine ⟨fun C nL h => ?_, fun C nL h => ?_⟩
  · obtain ⟨rfl, rfl⟩ : C_X11_draw = C ∧ 2 = nL := Prod.mk.injEq _ _ _ _ ▸ Option.some.inj h
    exact ⟨rfl, plain_ok (by decide), rfl, (fun h => by cases h), fun s args h1 h2 => pm_T_of hl cl_all ar_all ik_X11_draw ck_X11_draw s args h2 (fun L xs h => by cases h)⟩
  · obtain ⟨rfl, rfl⟩ : C_X11_draw = C ∧ 2 = nL := Prod.mk.injEq _ _ _ _ ▸ Option.some.inj h
    exact ⟨fun s args c h1 h2 h3 => hd_0_ok h3, fun h => (h rfl).elim⟩
theorem ok_146 (hl : l.stackTraces = false) : okMj l n0 sa sv 146 ∧ okHj n0 sa sv 146 := by
  refine ⟨fun C nL h => ?_, fun C nL h => ?_⟩
  · obtain ⟨rfl, rfl⟩ : C_X11_drawFate = C ∧ 4 = nL := Prod.mk.injEq _ _ _ _ ▸ Option.some.inj h
    exact ⟨rfl, plain_ok (by decide), rfl, (fun h => by cases h), fun s args h1 h2 => pm_T_of hl cl_all ar_all ik_X11_drawFate ck_X11_drawFate s args h2 (fun L xs h => by cases h)⟩
  · obtain ⟨rfl, rfl⟩ : C_X11_drawFate = C ∧ 4 = nL := Prod.mk.injEq _ _ _ _ ▸ Option.some.inj h
    exact ⟨fun s args c h1 h2 h3 => hd_0_ok h3, fun h => (h rfl).elim⟩
theorem ok_147 (hl : l.stackTraces = false) : okMj l n0 sa sv 147 ∧ okHj n0 sa sv 147 := by
  refine ⟨fun C nL h => ?_, fun C nL h => ?_⟩
  · obtain ⟨rfl, rfl⟩ : C_X11_busiest = C ∧ 5 = nL := Prod.mk.injEq _ _ _ _ ▸ Option.some.inj h
    exact ⟨rfl, plain_ok (by decide), rfl, (fun h => by cases h), fun s args h1 h2 => pm_T_of hl cl_all ar_all ik_X11_busiest ck_X11_busiest s args h2 (fun L xs h => by cases h)⟩
  · obtain ⟨rfl, rfl⟩ : C_X11_busiest = C ∧ 5 = nL := Prod.mk.injEq _ _ _ _ ▸ Option.some.inj h
    exact ⟨fun s args c h1 h2 h3 => hd_0_ok h3, fun h => (h rfl).elim⟩
theorem ok_148 (hl : l.stackTraces = false) : okMj l n0 sa sv 148 ∧ okHj n0 sa sv 148 := by
  refine ⟨fun C nL h => ?_, fun C nL h => ?_⟩
  · obtain ⟨rfl, rfl⟩ : C_X11_sorest = C ∧ 5 = nL := Prod.mk.injEq _ _ _ _ ▸ Option.some.inj h
    exact ⟨rfl, plain_ok (by decide), rfl, (fun h => by cases h), fun s args h1 h2 => pm_T_of hl cl_all ar_all ik_X11_sorest ck_X11_sorest s args h2 (fun L xs h => by cases h)⟩
  · obtain ⟨rfl, rfl⟩ : C_X11_sorest = C ∧ 5 = nL := Prod.mk.injEq _ _ _ _ ▸ Option.some.inj h
    exact ⟨fun s args c h1 h2 h3 => hd_0_ok h3, fun h => (h rfl).elim⟩
theorem ok_149 (hl : l.stackTraces = false) : okMj l n0 sa sv 149 ∧ okHj n0 sa sv 149 := by
  refine ⟨fun C nL h => ?_, fun C nL h => ?_⟩
  · obtain ⟨rfl, rfl⟩ : C_X11_alone = C ∧ 4 = nL := Prod.mk.injEq _ _ _ _ ▸ Option.some.inj h
    exact ⟨rfl, plain_ok (by decide), rfl, (fun h => by cases h), fun s args h1 h2 => pm_T_of hl cl_all ar_all ik_X11_alone ck_X11_alone s args h2 (fun L xs h => by cases h)⟩
  · obtain ⟨rfl, rfl⟩ : C_X11_alone = C ∧ 4 = nL := Prod.mk.injEq _ _ _ _ ▸ Option.some.inj h
    exact ⟨fun s args c h1 h2 h3 => hd_0_ok h3, fun h => (h rfl).elim⟩
theorem ok_150 (hl : l.stackTraces = false) : okMj l n0 sa sv 150 ∧ okHj n0 sa sv 150 := by
  refine ⟨fun C nL h => ?_, fun C nL h => ?_⟩
  · obtain ⟨rfl, rfl⟩ : C_X11_stuck = C ∧ 4 = nL := Prod.mk.injEq _ _ _ _ ▸ Option.some.inj h
    exact ⟨rfl, plain_ok (by decide), rfl, (fun h => by cases h), fun s args h1 h2 => pm_T_of hl cl_all ar_all ik_X11_stuck ck_X11_stuck s args h2 (fun L xs h => by cases h)⟩
  · obtain ⟨rfl, rfl⟩ : C_X11_stuck = C ∧ 4 = nL := Prod.mk.injEq _ _ _ _ ▸ Option.some.inj h
    exact ⟨fun s args c h1 h2 h3 => hd_0_ok h3, fun h => (h rfl).elim⟩
theorem ok_151 (hl : l.stackTraces = false) : okMj l n0 sa sv 151 ∧ okHj n0 sa sv 151 := by
  refine ⟨fun C nL h => ?_, fun C nL h => ?_⟩
  · obtain ⟨rfl, rfl⟩ : C_X12_init = C ∧ 1 = nL := Prod.mk.injEq _ _ _ _ ▸ Option.some.inj h
    exact ⟨rfl, plain_ok (by decide), rfl, fun _ => rfl, fun s args h1 h2 => pm_T_of hl cl_all ar_all ik_X12_init ck_X12_init s args h2 (fun L xs h => by cases h)⟩
  · obtain ⟨rfl, rfl⟩ : C_X12_init = C ∧ 1 = nL := Prod.mk.injEq _ _ _ _ ▸ Option.some.inj h
    exact ⟨fun s args c h1 h2 h3 => hd_0_ok h3, fun h => (h rfl).elim⟩
theorem ok_152 (hl : l.stackTraces = false) : okMj l n0 sa sv 152 ∧ okHj n0 sa sv 152 := by
  refine ⟨fun C nL h => ?_, fun C nL h => ?_⟩
  · obtain ⟨rfl, rfl⟩ : C_X12_thrown = C ∧ 1 = nL := Prod.mk.injEq _ _ _ _ ▸ Option.some.inj h
    exact ⟨rfl, plain_ok (by decide), rfl, (fun h => by cases h), fun s args h1 h2 => pm_T_of hl cl_all ar_all ik_X12_thrown ck_X12_thrown s args h2 (fun L xs h => by cases h)⟩
  · obtain ⟨rfl, rfl⟩ : C_X12_thrown = C ∧ 1 = nL := Prod.mk.injEq _ _ _ _ ▸ Option.some.inj h
    exact ⟨fun s args c h1 h2 h3 => hd_0_ok h3, fun h => (h rfl).elim⟩
theorem ok_153 (hl : l.stackTraces = false) : okMj l n0 sa sv 153 ∧ okHj n0 sa sv 153 := by
  refine ⟨fun C nL h => ?_, fun C nL h => ?_⟩
  · obtain ⟨rfl, rfl⟩ : C_X12_right = C ∧ 3 = nL := Prod.mk.injEq _ _ _ _ ▸ Option.some.inj h
    exact ⟨rfl, plain_ok (by decide), rfl, (fun h => by cases h), fun s args h1 h2 => pm_T_of hl cl_all ar_all ik_X12_right ck_X12_right s args h2 (fun L xs h => by cases h)⟩
  · obtain ⟨rfl, rfl⟩ : C_X12_right = C ∧ 3 = nL := Prod.mk.injEq _ _ _ _ ▸ Option.some.inj h
    exact ⟨fun s args c h1 h2 h3 => hd_0_ok h3, fun h => (h rfl).elim⟩
theorem ok_154 (hl : l.stackTraces = false) : okMj l n0 sa sv 154 ∧ okHj n0 sa sv 154 := by
  refine ⟨fun C nL h => ?_, fun C nL h => ?_⟩
  · obtain ⟨rfl, rfl⟩ : C_X12_within = C ∧ 3 = nL := Prod.mk.injEq _ _ _ _ ▸ Option.some.inj h
    exact ⟨rfl, plain_ok (by decide), rfl, (fun h => by cases h), fun s args h1 h2 => pm_T_of hl cl_all ar_all ik_X12_within ck_X12_within s args h2 (fun L xs h => by cases h)⟩
  · obtain ⟨rfl, rfl⟩ : C_X12_within = C ∧ 3 = nL := Prod.mk.injEq _ _ _ _ ▸ Option.some.inj h
    exact ⟨fun s args c h1 h2 h3 => hd_0_ok h3, fun h => (h rfl).elim⟩
theorem ok_155 (hl : l.stackTraces = false) : okMj l n0 sa sv 155 ∧ okHj n0 sa sv 155 := by
  refine ⟨fun C nL h => ?_, fun C nL h => ?_⟩
  · obtain ⟨rfl, rfl⟩ : C_X12_bounded = C ∧ 3 = nL := Prod.mk.injEq _ _ _ _ ▸ Option.some.inj h
    exact ⟨rfl, plain_ok (by decide), rfl, (fun h => by cases h), fun s args h1 h2 => pm_T_of hl cl_all ar_all ik_X12_bounded ck_X12_bounded s args h2 (fun L xs h => by cases h)⟩
  · obtain ⟨rfl, rfl⟩ : C_X12_bounded = C ∧ 3 = nL := Prod.mk.injEq _ _ _ _ ▸ Option.some.inj h
    exact ⟨fun s args c h1 h2 h3 => hd_0_ok h3, fun h => (h rfl).elim⟩
theorem ok_156 (hl : l.stackTraces = false) : okMj l n0 sa sv 156 ∧ okHj n0 sa sv 156 := by
  refine ⟨fun C nL h => ?_, fun C nL h => ?_⟩
  · obtain ⟨rfl, rfl⟩ : C_X12_lesser = C ∧ 2 = nL := Prod.mk.injEq _ _ _ _ ▸ Option.some.inj h
    exact ⟨rfl, plain_ok (by decide), rfl, (fun h => by cases h), fun s args h1 h2 => pm_T_of hl cl_all ar_all ik_X12_lesser ck_X12_lesser s args h2 (fun L xs h => by cases h)⟩
  · obtain ⟨rfl, rfl⟩ : C_X12_lesser = C ∧ 2 = nL := Prod.mk.injEq _ _ _ _ ▸ Option.some.inj h
    exact ⟨fun s args c h1 h2 h3 => hd_0_ok h3, fun h => (h rfl).elim⟩
theorem ok_157 (hl : l.stackTraces = false) : okMj l n0 sa sv 157 ∧ okHj n0 sa sv 157 := by
  refine ⟨fun C nL h => ?_, fun C nL h => ?_⟩
  · obtain ⟨rfl, rfl⟩ : C_X12_copies = C ∧ 4 = nL := Prod.mk.injEq _ _ _ _ ▸ Option.some.inj h
    exact ⟨rfl, plain_ok (by decide), rfl, (fun h => by cases h), fun s args h1 h2 => pm_T_of hl cl_all ar_all ik_X12_copies ck_X12_copies s args h2 (fun L xs h => by cases h)⟩
  · obtain ⟨rfl, rfl⟩ : C_X12_copies = C ∧ 4 = nL := Prod.mk.injEq _ _ _ _ ▸ Option.some.inj h
    exact ⟨fun s args c h1 h2 h3 => hd_0_ok h3, fun h => (h rfl).elim⟩
theorem ok_158 (hl : l.stackTraces = false) : okMj l n0 sa sv 158 ∧ okHj n0 sa sv 158 := by
  refine ⟨fun C nL h => ?_, fun C nL h => ?_⟩
  · obtain ⟨rfl, rfl⟩ : C_X12_bits = C ∧ 3 = nL := Prod.mk.injEq _ _ _ _ ▸ Option.some.inj h
    exact ⟨rfl, plain_ok (by decide), rfl, (fun h => by cases h), fun s args h1 h2 => pm_T_of hl cl_all ar_all ik_X12_bits ck_X12_bits s args h2 (fun L xs h => by cases h)⟩
  · obtain ⟨rfl, rfl⟩ : C_X12_bits = C ∧ 3 = nL := Prod.mk.injEq _ _ _ _ ▸ Option.some.inj h
    exact ⟨fun s args c h1 h2 h3 => hd_0_ok h3, fun h => (h rfl).elim⟩
theorem ok_159 (hl : l.stackTraces = false) : okMj l n0 sa sv 159 ∧ okHj n0 sa sv 159 := by
  refine ⟨fun C nL h => ?_, fun C nL h => ?_⟩
  · obtain ⟨rfl, rfl⟩ : C_X12_feed = C ∧ 6 = nL := Prod.mk.injEq _ _ _ _ ▸ Option.some.inj h
    exact ⟨rfl, plain_ok (by decide), rfl, (fun h => by cases h), fun s args h1 h2 => pm_T_of hl cl_all ar_all ik_X12_feed ck_X12_feed s args h2 (fun L xs h => by cases h)⟩
  · obtain ⟨rfl, rfl⟩ : C_X12_feed = C ∧ 6 = nL := Prod.mk.injEq _ _ _ _ ▸ Option.some.inj h
    exact ⟨fun s args c h1 h2 h3 => hd_0_ok h3, fun h => (h rfl).elim⟩
theorem ok_160 (hl : l.stackTraces = false) : okMj l n0 sa sv 160 ∧ okHj n0 sa sv 160 := by
  refine ⟨fun C nL h => ?_, fun C nL h => ?_⟩
  · obtain ⟨rfl, rfl⟩ : C_X12_lays = C ∧ 3 = nL := Prod.mk.injEq _ _ _ _ ▸ Option.some.inj h
    exact ⟨rfl, plain_ok (by decide), rfl, (fun h => by cases h), fun s args h1 h2 => pm_T_of hl cl_all ar_all ik_X12_lays ck_X12_lays s args h2 (fun L xs h => by cases h)⟩
  · obtain ⟨rfl, rfl⟩ : C_X12_lays = C ∧ 3 = nL := Prod.mk.injEq _ _ _ _ ▸ Option.some.inj h
    exact ⟨fun s args c h1 h2 h3 => hd_0_ok h3, fun h => (h rfl).elim⟩
theorem ok_161 (hl : l.stackTraces = false) : okMj l n0 sa sv 161 ∧ okHj n0 sa sv 161 := by
  refine ⟨fun C nL h => ?_, fun C nL h => ?_⟩
  · obtain ⟨rfl, rfl⟩ : C_X12_byteAt = C ∧ 2 = nL := Prod.mk.injEq _ _ _ _ ▸ Option.some.inj h
    exact ⟨rfl, plain_ok (by decide), rfl, (fun h => by cases h), fun s args h1 h2 => pm_T_of hl cl_all ar_all ik_X12_byteAt ck_X12_byteAt s args h2 (fun L xs h => by cases h)⟩
  · obtain ⟨rfl, rfl⟩ : C_X12_byteAt = C ∧ 2 = nL := Prod.mk.injEq _ _ _ _ ▸ Option.some.inj h
    exact ⟨fun s args c h1 h2 h3 => hd_0_ok h3, fun h => (h rfl).elim⟩
theorem ok_162 (hl : l.stackTraces = false) : okMj l n0 sa sv 162 ∧ okHj n0 sa sv 162 := by
  refine ⟨fun C nL h => ?_, fun C nL h => ?_⟩
  · obtain ⟨rfl, rfl⟩ : C_X12_isLetter = C ∧ 1 = nL := Prod.mk.injEq _ _ _ _ ▸ Option.some.inj h
    exact ⟨rfl, plain_ok (by decide), rfl, (fun h => by cases h), fun s args h1 h2 => pm_T_of hl cl_all ar_all ik_X12_isLetter ck_X12_isLetter s args h2 (fun L xs h => by cases h)⟩
  · obtain ⟨rfl, rfl⟩ : C_X12_isLetter = C ∧ 1 = nL := Prod.mk.injEq _ _ _ _ ▸ Option.some.inj h
    exact ⟨fun s args c h1 h2 h3 => hd_0_ok h3, fun h => (h rfl).elim⟩
theorem ok_163 (hl : l.stackTraces = false) : okMj l n0 sa sv 163 ∧ okHj n0 sa sv 163 := by
  refine ⟨fun C nL h => ?_, fun C nL h => ?_⟩
  · obtain ⟨rfl, rfl⟩ : C_X12_isDigit = C ∧ 1 = nL := Prod.mk.injEq _ _ _ _ ▸ Option.some.inj h
    exact ⟨rfl, plain_ok (by decide), rfl, (fun h => by cases h), fun s args h1 h2 => pm_T_of hl cl_all ar_all ik_X12_isDigit ck_X12_isDigit s args h2 (fun L xs h => by cases h)⟩
  · obtain ⟨rfl, rfl⟩ : C_X12_isDigit = C ∧ 1 = nL := Prod.mk.injEq _ _ _ _ ▸ Option.some.inj h
    exact ⟨fun s args c h1 h2 h3 => hd_0_ok h3, fun h => (h rfl).elim⟩
theorem ok_164 (hl : l.stackTraces = false) : okMj l n0 sa sv 164 ∧ okHj n0 sa sv 164 := by
  refine ⟨fun C nL h => ?_, fun C nL h => ?_⟩
  · obtain ⟨rfl, rfl⟩ : C_X12_goes = C ∧ 2 = nL := Prod.mk.injEq _ _ _ _ ▸ Option.some.inj h
    exact ⟨rfl, plain_ok (by decide), rfl, (fun h => by cases h), fun s args h1 h2 => pm_T_of hl cl_all ar_all ik_X12_goes ck_X12_goes s args h2 (fun L xs h => by cases h)⟩
  · obtain ⟨rfl, rfl⟩ : C_X12_goes = C ∧ 2 = nL := Prod.mk.injEq _ _ _ _ ▸ Option.some.inj h
    exact ⟨fun s args c h1 h2 h3 => hd_0_ok h3, fun h => (h rfl).elim⟩
theorem ok_165 (hl : l.stackTraces = false) : okMj l n0 sa sv 165 ∧ okHj n0 sa sv 165 := by
  refine ⟨fun C nL h => ?_, fun C nL h => ?_⟩
  · obtain ⟨rfl, rfl⟩ : C_X12_spelled = C ∧ 8 = nL := Prod.mk.injEq _ _ _ _ ▸ Option.some.inj h
    exact ⟨rfl, plain_ok (by decide), rfl, (fun h => by cases h), fun s args h1 h2 => pm_T_of hl cl_all ar_all ik_X12_spelled ck_X12_spelled s args h2 (fun L xs h => by cases h)⟩
  · obtain ⟨rfl, rfl⟩ : C_X12_spelled = C ∧ 8 = nL := Prod.mk.injEq _ _ _ _ ▸ Option.some.inj h
    exact ⟨fun s args c h1 h2 h3 => hd_0_ok h3, fun h => (h rfl).elim⟩
theorem ok_166 (hl : l.stackTraces = false) : okMj l n0 sa sv 166 ∧ okHj n0 sa sv 166 := by
  refine ⟨fun C nL h => ?_, fun C nL h => ?_⟩
  · obtain ⟨rfl, rfl⟩ : C_X12_letters = C ∧ 1 = nL := Prod.mk.injEq _ _ _ _ ▸ Option.some.inj h
    exact ⟨rfl, plain_ok (by decide), rfl, (fun h => by cases h), fun s args h1 h2 => pm_T_of hl cl_all ar_all ik_X12_letters ck_X12_letters s args h2 (fun L xs h => by cases h)⟩
  · obtain ⟨rfl, rfl⟩ : C_X12_letters = C ∧ 1 = nL := Prod.mk.injEq _ _ _ _ ▸ Option.some.inj h
    exact ⟨fun s args c h1 h2 h3 => hd_0_ok h3, fun h => (h rfl).elim⟩
theorem ok_167 (hl : l.stackTraces = false) : okMj l n0 sa sv 167 ∧ okHj n0 sa sv 167 := by
  refine ⟨fun C nL h => ?_, fun C nL h => ?_⟩
  · obtain ⟨rfl, rfl⟩ : C_X12_knownWord = C ∧ 2 = nL := Prod.mk.injEq _ _ _ _ ▸ Option.some.inj h
    exact ⟨rfl, plain_ok (by decide), rfl, (fun h => by cases h), fun s args h1 h2 => pm_T_of hl cl_all ar_all ik_X12_knownWord ck_X12_knownWord s args h2 (fun L xs h => by cases h)⟩
  · obtain ⟨rfl, rfl⟩ : C_X12_knownWord = C ∧ 2 = nL := Prod.mk.injEq _ _ _ _ ▸ Option.some.inj h
    exact ⟨fun s args c h1 h2 h3 => hd_0_ok h3, fun h => (h rfl).elim⟩
theorem ok_168 (hl : l.stackTraces = false) : okMj l n0 sa sv 168 ∧ okHj n0 sa sv 168 := by
  refine ⟨fun C nL h => ?_, fun C nL h => ?_⟩
  · obtain ⟨rfl, rfl⟩ : C_X12_wrong = C ∧ 2 = nL := Prod.mk.injEq _ _ _ _ ▸ Option.some.inj h
    exact ⟨rfl, plain_ok (by decide), rfl, (fun h => by cases h), fun s args h1 h2 => pm_T_of hl cl_all ar_all ik_X12_wrong ck_X12_wrong s args h2 (fun L xs h => by cases h)⟩
  · obtain ⟨rfl, rfl⟩ : C_X12_wrong = C ∧ 2 = nL := Prod.mk.injEq _ _ _ _ ▸ Option.some.inj h
    exact ⟨fun s args c h1 h2 h3 => hd_0_ok h3, fun h => (h rfl).elim⟩
theorem ok_169 (hl : l.stackTraces = false) : okMj l n0 sa sv 169 ∧ okHj n0 sa sv 169 := by
  refine ⟨fun C nL h => ?_, fun C nL h => ?_⟩
  · obtain ⟨rfl, rfl⟩ : C_X12_isGood = C ∧ 1 = nL := Prod.mk.injEq _ _ _ _ ▸ Option.some.inj h
    exact ⟨rfl, plain_ok (by decide), rfl, (fun h => by cases h), fun s args h1 h2 => pm_T_of hl cl_all ar_all ik_X12_isGood ck_X12_isGood s args h2 (fun L xs h => by cases h)⟩
  · obtain ⟨rfl, rfl⟩ : C_X12_isGood = C ∧ 1 = nL := Prod.mk.injEq _ _ _ _ ▸ Option.some.inj h
    exact ⟨fun s args c h1 h2 h3 => hd_0_ok h3, fun h => (h rfl).elim⟩
theorem ok_170 (hl : l.stackTraces = false) : okMj l n0 sa sv 170 ∧ okHj n0 sa sv 170 := by
  refine ⟨fun C nL h => ?_, fun C nL h => ?_⟩
  · obtain ⟨rfl, rfl⟩ : C_X12_isSign = C ∧ 2 = nL := Prod.mk.injEq _ _ _ _ ▸ Option.some.inj h
    exact ⟨rfl, plain_ok (by decide), rfl, (fun h => by cases h), fun s args h1 h2 => pm_T_of hl cl_all ar_all ik_X12_isSign ck_X12_isSign s args h2 (fun L xs h => by cases h)⟩
  · obtain ⟨rfl, rfl⟩ : C_X12_isSign = C ∧ 2 = nL := Prod.mk.injEq _ _ _ _ ▸ Option.some.inj h
    exact ⟨fun s args c h1 h2 h3 => hd_0_ok h3, fun h => (h rfl).elim⟩
theorem ok_171 (hl : l.stackTraces = false) : okMj l n0 sa sv 171 ∧ okHj n0 sa sv 171 := by
  refine ⟨fun C nL h => ?_, fun C nL h => ?_⟩
  · obtain ⟨rfl, rfl⟩ : C_X12_need = C ∧ 2 = nL := Prod.mk.injEq _ _ _ _ ▸ Option.some.inj h
    exact ⟨rfl, plain_ok (by decide), rfl, (fun h => by cases h), fun s args h1 h2 => pm_T_of hl cl_all ar_all ik_X12_need ck_X12_need s args h2 (fun L xs h => by cases h)⟩
  · obtain ⟨rfl, rfl⟩ : C_X12_need = C ∧ 2 = nL := Prod.mk.injEq _ _ _ _ ▸ Option.some.inj h
    exact ⟨fun s args c h1 h2 h3 => hd_0_ok h3, fun h => (h rfl).elim⟩
theorem ok_172 (hl : l.stackTraces = false) : okMj l n0 sa sv 172 ∧ okHj n0 sa sv 172 := by
  refine ⟨fun C nL h => ?_, fun C nL h => ?_⟩
  · obtain ⟨rfl, rfl⟩ : C_X12_number = C ∧ 4 = nL := Prod.mk.injEq _ _ _ _ ▸ Option.some.inj h
    exact ⟨rfl, plain_ok (by decide), rfl, (fun h => by cases h), fun s args h1 h2 => pm_T_of hl cl_all ar_all ik_X12_number ck_X12_number s args h2 (fun L xs h => by cases h)⟩
  · obtain ⟨rfl, rfl⟩ : C_X12_number = C ∧ 4 = nL := Prod.mk.injEq _ _ _ _ ▸ Option.some.inj h
    exact ⟨fun s args c h1 h2 h3 => hd_0_ok h3, fun h => (h rfl).elim⟩
theorem ok_173 (hl : l.stackTraces = false) : okMj l n0 sa sv 173 ∧ okHj n0 sa sv 173 := by
  refine ⟨fun C nL h => ?_, fun C nL h => ?_⟩
  · obtain ⟨rfl, rfl⟩ : C_X12_cellHere = C ∧ 1 = nL := Prod.mk.injEq _ _ _ _ ▸ Option.some.inj h
    exact ⟨rfl, plain_ok (by decide), rfl, (fun h => by cases h), fun s args h1 h2 => pm_T_of hl cl_all ar_all ik_X12_cellHere ck_X12_cellHere s args h2 (fun L xs h => by cases h)⟩
  · obtain ⟨rfl, rfl⟩ : C_X12_cellHere = C ∧ 1 = nL := Prod.mk.injEq _ _ _ _ ▸ Option.some.inj h
    exact ⟨fun s args c h1 h2 h3 => hd_0_ok h3, fun h => (h rfl).elim⟩
theorem ok_174 (hl : l.stackTraces = false) : okMj l n0 sa sv 174 ∧ okHj n0 sa sv 174 := by
  refine ⟨fun C nL h => ?_, fun C nL h => ?_⟩
  · obtain ⟨rfl, rfl⟩ : C_X12_puts = C ∧ 2 = nL := Prod.mk.injEq _ _ _ _ ▸ Option.some.inj h
    exact ⟨rfl, plain_ok (by decide), rfl, (fun h => by cases h), fun s args h1 h2 => pm_T_of hl cl_all ar_all ik_X12_puts ck_X12_puts s args h2 (fun L xs h => by cases h)⟩
  · obtain ⟨rfl, rfl⟩ : C_X12_puts = C ∧ 2 = nL := Prod.mk.injEq _ _ _ _ ▸ Option.some.inj h
    exact ⟨fun s args c h1 h2 h3 => hd_0_ok h3, fun h => (h rfl).elim⟩
theorem ok_175 (hl : l.stackTraces = false) : okMj l n0 sa sv 175 ∧ okHj n0 sa sv 175 := by
  refine ⟨fun C nL h => ?_, fun C nL h => ?_⟩
  · obtain ⟨rfl, rfl⟩ : C_X12_isOpen = C ∧ 1 = nL := Prod.mk.injEq _ _ _ _ ▸ Option.some.inj h
    exact ⟨rfl, plain_ok (by decide), rfl, (fun h => by cases h), fun s args h1 h2 => pm_T_of hl cl_all ar_all ik_X12_isOpen ck_X12_isOpen s args h2 (fun L xs h => by cases h)⟩
  · obtain ⟨rfl, rfl⟩ : C_X12_isOpen = C ∧ 1 = nL := Prod.mk.injEq _ _ _ _ ▸ Option.some.inj h
    exact ⟨fun s args c h1 h2 h3 => hd_0_ok h3, fun h => (h rfl).elim⟩
theorem ok_176 (hl : l.stackTraces = false) : okMj l n0 sa sv 176 ∧ okHj n0 sa sv 176 := by
  refine ⟨fun C nL h => ?_, fun C nL h => ?_⟩
  · obtain ⟨rfl, rfl⟩ : C_X12_strength = C ∧ 1 = nL := Prod.mk.injEq _ _ _ _ ▸ Option.some.inj h
    exact ⟨rfl, plain_ok (by decide), rfl, (fun h => by cases h), fun s args h1 h2 => pm_T_of hl cl_all ar_all ik_X12_strength ck_X12_strength s args h2 (fun L xs h => by cases h)⟩
  · obtain ⟨rfl, rfl⟩ : C_X12_strength = C ∧ 1 = nL := Prod.mk.injEq _ _ _ _ ▸ Option.some.inj h
    exact ⟨fun s args c h1 h2 h3 => hd_0_ok h3, fun h => (h rfl).elim⟩
theorem ok_177 (hl : l.stackTraces = false) : okMj l n0 sa sv 177 ∧ okHj n0 sa sv 177 := by
  refine ⟨fun C nL h => ?_, fun C nL h => ?_⟩
  · obtain ⟨rfl, rfl⟩ : C_X12_drops = C ∧ 2 = nL := Prod.mk.injEq _ _ _ _ ▸ Option.some.inj h
    exact ⟨rfl, plain_ok (by decide), rfl, (fun h => by cases h), fun s args h1 h2 => pm_T_of hl cl_all ar_all ik_X12_drops ck_X12_drops s args h2 (fun L xs h => by cases h)⟩
  · obtain ⟨rfl, rfl⟩ : C_X12_drops = C ∧ 2 = nL := Prod.mk.injEq _ _ _ _ ▸ Option.some.inj h
    exact ⟨fun s args c h1 h2 h3 => hd_0_ok h3, fun h => (h rfl).elim⟩
theorem ok_178 (hl : l.stackTraces = false) : okMj l n0 sa sv 178 ∧ okHj n0 sa sv 178 := by
  refine ⟨fun C nL h => ?_, fun C nL h => ?_⟩
  · obtain ⟨rfl, rfl⟩ : C_X12_waitsFor = C ∧ 2 = nL := Prod.mk.injEq _ _ _ _ ▸ Option.some.inj h
    exact ⟨rfl, plain_ok (by decide), rfl, (fun h => by cases h), fun s args h1 h2 => pm_T_of hl cl_all ar_all ik_X12_waitsFor ck_X12_waitsFor s args h2 (fun L xs h => by cases h)⟩
  · obtain ⟨rfl, rfl⟩ : C_X12_waitsFor = C ∧ 2 = nL := Prod.mk.injEq _ _ _ _ ▸ Option.some.inj h
    exact ⟨fun s args c h1 h2 h3 => hd_0_ok h3, fun h => (h rfl).elim⟩
theorem ok_179 (hl : l.stackTraces = false) : okMj l n0 sa sv 179 ∧ okHj n0 sa sv 179 := by
  refine ⟨fun C nL h => ?_, fun C nL h => ?_⟩
  · obtain ⟨rfl, rfl⟩ : C_X12_part = C ∧ 2 = nL := Prod.mk.injEq _ _ _ _ ▸ Option.some.inj h
    exact ⟨rfl, plain_ok (by decide), rfl, (fun h => by cases h), fun s args h1 h2 => pm_T_of hl cl_all ar_all ik_X12_part ck_X12_part s args h2 (fun L xs h => by cases h)⟩
  · obtain ⟨rfl, rfl⟩ : C_X12_part = C ∧ 2 = nL := Prod.mk.injEq _ _ _ _ ▸ Option.some.inj h
    exact ⟨fun s args c h1 h2 h3 => hd_0_ok h3, fun h => (h rfl).elim⟩
theorem ok_180 (hl : l.stackTraces = false) : okMj l n0 sa sv 180 ∧ okHj n0 sa sv 180 := by
  refine ⟨fun C nL h => ?_, fun C nL h => ?_⟩
  · obtain ⟨rfl, rfl⟩ : C_X12_deeper = C ∧ 1 = nL := Prod.mk.injEq _ _ _ _ ▸ Option.some.inj h
    exact ⟨rfl, plain_ok (by decide), rfl, (fun h => by cases h), fun s args h1 h2 => pm_T_of hl cl_all ar_all ik_X12_deeper ck_X12_deeper s args h2 (fun L xs h => by cases h)⟩
  · obtain ⟨rfl, rfl⟩ : C_X12_deeper = C ∧ 1 = nL := Prod.mk.injEq _ _ _ _ ▸ Option.some.inj h
    exact ⟨fun s args c h1 h2 h3 => hd_0_ok h3, fun h => (h rfl).elim⟩
theorem ok_181 (hl : l.stackTraces = false) : okMj l n0 sa sv 181 ∧ okHj n0 sa sv 181 := by
  refine ⟨fun C nL h => ?_, fun C nL h => ?_⟩
  · obtain ⟨rfl, rfl⟩ : C_X12_operand = C ∧ 5 = nL := Prod.mk.injEq _ _ _ _ ▸ Option.some.inj h
    exact ⟨rfl, plain_ok (by decide), rfl, (fun h => by cases h), fun s args h1 h2 => pm_T_of hl cl_all ar_all ik_X12_operand ck_X12_operand s args h2 (fun L xs h => by cases h)⟩
  · obtain ⟨rfl, rfl⟩ : C_X12_operand = C ∧ 5 = nL := Prod.mk.injEq _ _ _ _ ▸ Option.some.inj h
    exact ⟨fun s args c h1 h2 h3 => hd_0_ok h3, fun h => (h rfl).elim⟩
theorem ok_182 (hl : l.stackTraces = false) : okMj l n0 sa sv 182 ∧ okHj n0 sa sv 182 := by
  refine ⟨fun C nL h => ?_, fun C nL h => ?_⟩
  · obtain ⟨rfl, rfl⟩ : C_X12_isOpened = C ∧ 2 = nL := Prod.mk.injEq _ _ _ _ ▸ Option.some.inj h
    exact ⟨rfl, plain_ok (by decide), rfl, (fun h => by cases h), fun s args h1 h2 => pm_T_of hl cl_all ar_all ik_X12_isOpened ck_X12_isOpened s args h2 (fun L xs h => by cases h)⟩
  · obtain ⟨rfl, rfl⟩ : C_X12_isOpened = C ∧ 2 = nL := Prod.mk.injEq _ _ _ _ ▸ Option.some.inj h
    exact ⟨fun s args c h1 h2 h3 => hd_0_ok h3, fun h => (h rfl).elim⟩
theorem ok_183 (hl : l.stackTraces = false) : okMj l n0 sa sv 183 ∧ okHj n0 sa sv 183 := by
  refine ⟨fun C nL h => ?_, fun C nL h => ?_⟩
  · obtain ⟨rfl, rfl⟩ : C_X12_closes = C ∧ 1 = nL := Prod.mk.injEq _ _ _ _ ▸ Option.some.inj h
    exact ⟨rfl, plain_ok (by decide), rfl, (fun h => by cases h), fun s args h1 h2 => pm_T_of hl cl_all ar_all ik_X12_closes ck_X12_closes s args h2 (fun L xs h => by cases h)⟩
  · obtain ⟨rfl, rfl⟩ : C_X12_closes = C ∧ 1 = nL := Prod.mk.injEq _ _ _ _ ▸ Option.some.inj h
    exact ⟨fun s args c h1 h2 h3 => hd_0_ok h3, fun h => (h rfl).elim⟩
theorem ok_184 (hl : l.stackTraces = false) : okMj l n0 sa sv 184 ∧ okHj n0 sa sv 184 := by
  refine ⟨fun C nL h => ?_, fun C nL h => ?_⟩
  · obtain ⟨rfl, rfl⟩ : C_X12_expression = C ∧ 5 = nL := Prod.mk.injEq _ _ _ _ ▸ Option.some.inj h
    exact ⟨rfl, plain_ok (by decide), rfl, (fun h => by cases h), fun s args h1 h2 => pm_T_of hl cl_all ar_all ik_X12_expression ck_X12_expression s args h2 (fun L xs h => by cases h)⟩
  · obtain ⟨rfl, rfl⟩ : C_X12_expression = C ∧ 5 = nL := Prod.mk.injEq _ _ _ _ ▸ Option.some.inj h
    exact ⟨fun s args c h1 h2 h3 => hd_0_ok h3, fun h => (h rfl).elim⟩
theorem ok_185 (hl : l.stackTraces = false) : okMj l n0 sa sv 185 ∧ okHj n0 sa sv 185 := by
  refine ⟨fun C nL h => ?_, fun C nL h => ?_⟩
  · obtain ⟨rfl, rfl⟩ : C_X12_begins = C ∧ 3 = nL := Prod.mk.injEq _ _ _ _ ▸ Option.some.inj h
    exact ⟨rfl, plain_ok (by decide), rfl, (fun h => by cases h), fun s args h1 h2 => pm_T_of hl cl_all ar_all ik_X12_begins ck_X12_begins s args h2 (fun L xs h => by cases h)⟩
  · obtain ⟨rfl, rfl⟩ : C_X12_begins = C ∧ 3 = nL := Prod.mk.injEq _ _ _ _ ▸ Option.some.inj h
    exact ⟨fun s args c h1 h2 h3 => hd_0_ok h3, fun h => (h rfl).elim⟩
theorem ok_186 (hl : l.stackTraces = false) : okMj l n0 sa sv 186 ∧ okHj n0 sa sv 186 := by
  refine ⟨fun C nL h => ?_, fun C nL h => ?_⟩
  · obtain ⟨rfl, rfl⟩ : C_X12_readsWall = C ∧ 3 = nL := Prod.mk.injEq _ _ _ _ ▸ Option.some.inj h
    exact ⟨rfl, plain_ok (by decide), rfl, (fun h => by cases h), fun s args h1 h2 => pm_T_of hl cl_all ar_all ik_X12_readsWall ck_X12_readsWall s args h2 (fun L xs h => by cases h)⟩
  · obtain ⟨rfl, rfl⟩ : C_X12_readsWall = C ∧ 3 = nL := Prod.mk.injEq _ _ _ _ ▸ Option.some.inj h
    exact ⟨fun s args c h1 h2 h3 => hd_0_ok h3, fun h => (h rfl).elim⟩
theorem ok_187 (hl : l.stackTraces = false) : okMj l n0 sa sv 187 ∧ okHj n0 sa sv 187 := by
  refine ⟨fun C nL h => ?_, fun C nL h => ?_⟩
  · obtain ⟨rfl, rfl⟩ : C_X12_readsFigure = C ∧ 5 = nL := Prod.mk.injEq _ _ _ _ ▸ Option.some.inj h
    exact ⟨rfl, plain_ok (by decide), rfl, (fun h => by cases h), fun s args h1 h2 => pm_T_of hl cl_all ar_all ik_X12_readsFigure ck_X12_readsFigure s args h2 (fun L xs h => by cases h)⟩
  · obtain ⟨rfl, rfl⟩ : C_X12_readsFigure = C ∧ 5 = nL := Prod.mk.injEq _ _ _ _ ▸ Option.some.inj h
    exact ⟨fun s args c h1 h2 h3 => hd_0_ok h3, fun h => (h rfl).elim⟩
theorem ok_188 (hl : l.stackTraces = false) : okMj l n0 sa sv 188 ∧ okHj n0 sa sv 188 := by
  refine ⟨fun C nL h => ?_, fun C nL h => ?_⟩
  · obtain ⟨rfl, rfl⟩ : C_X12_readsSeat = C ∧ 1 = nL := Prod.mk.injEq _ _ _ _ ▸ Option.some.inj h
    exact ⟨rfl, plain_ok (by decide), rfl, (fun h => by cases h), fun s args h1 h2 => pm_T_of hl cl_all ar_all ik_X12_readsSeat ck_X12_readsSeat s args h2 (fun L xs h => by cases h)⟩
  · obtain ⟨rfl, rfl⟩ : C_X12_readsSeat = C ∧ 1 = nL := Prod.mk.injEq _ _ _ _ ▸ Option.some.inj h
    exact ⟨fun s args c h1 h2 h3 => hd_0_ok h3, fun h => (h rfl).elim⟩
theorem ok_189 (hl : l.stackTraces = false) : okMj l n0 sa sv 189 ∧ okHj n0 sa sv 189 := by
  refine ⟨fun C nL h => ?_, fun C nL h => ?_⟩
  · obtain ⟨rfl, rfl⟩ : C_X12_readsLight = C ∧ 3 = nL := Prod.mk.injEq _ _ _ _ ▸ Option.some.inj h
    exact ⟨rfl, plain_ok (by decide), rfl, (fun h => by cases h), fun s args h1 h2 => pm_T_of hl cl_all ar_all ik_X12_readsLight ck_X12_readsLight s args h2 (fun L xs h => by cases h)⟩
  · obtain ⟨rfl, rfl⟩ : C_X12_readsLight = C ∧ 3 = nL := Prod.mk.injEq _ _ _ _ ▸ Option.some.inj h
    exact ⟨fun s args c h1 h2 h3 => hd_0_ok h3, fun h => (h rfl).elim⟩
theorem ok_190 (hl : l.stackTraces = false) : okMj l n0 sa sv 190 ∧ okHj n0 sa sv 190 := by
  refine ⟨fun C nL h => ?_, fun C nL h => ?_⟩
  · obtain ⟨rfl, rfl⟩ : C_X12_line = C ∧ 2 = nL := Prod.mk.injEq _ _ _ _ ▸ Option.some.inj h
    exact ⟨rfl, plain_ok (by decide), rfl, (fun h => by cases h), fun s args h1 h2 => pm_T_of hl cl_all ar_all ik_X12_line ck_X12_line s args h2 (fun L xs h => by cases h)⟩
  · obtain ⟨rfl, rfl⟩ : C_X12_line = C ∧ 2 = nL := Prod.mk.injEq _ _ _ _ ▸ Option.some.inj h
    exact ⟨fun s args c h1 h2 h3 => hd_0_ok h3, fun h => (h rfl).elim⟩
theorem ok_191 (hl : l.stackTraces = false) : okMj l n0 sa sv 191 ∧ okHj n0 sa sv 191 := by
  refine ⟨fun C nL h => ?_, fun C nL h => ?_⟩
  · obtain ⟨rfl, rfl⟩ : C_X12_town = C ∧ 3 = nL := Prod.mk.injEq _ _ _ _ ▸ Option.some.inj h
    exact ⟨rfl, plain_ok (by decide), rfl, (fun h => by cases h), fun s args h1 h2 => pm_T_of hl cl_all ar_all ik_X12_town ck_X12_town s args h2 (fun L xs h => by cases h)⟩
  · obtain ⟨rfl, rfl⟩ : C_X12_town = C ∧ 3 = nL := Prod.mk.injEq _ _ _ _ ▸ Option.some.inj h
    exact ⟨fun s args c h1 h2 h3 => hd_0_ok h3, fun h => (h rfl).elim⟩
theorem ok_192 (hl : l.stackTraces = false) : okMj l n0 sa sv 192 ∧ okHj n0 sa sv 192 := by
  refine ⟨fun C nL h => ?_, fun C nL h => ?_⟩
  · obtain ⟨rfl, rfl⟩ : C_X12_fault = C ∧ 1 = nL := Prod.mk.injEq _ _ _ _ ▸ Option.some.inj h
    exact ⟨rfl, plain_ok (by decide), rfl, (fun h => by cases h), fun s args h1 h2 => pm_T_of hl cl_all ar_all ik_X12_fault ck_X12_fault s args h2 (fun L xs h => by cases h)⟩
  · obtain ⟨rfl, rfl⟩ : C_X12_fault = C ∧ 1 = nL := Prod.mk.injEq _ _ _ _ ▸ Option.some.inj h
    exact ⟨fun s args c h1 h2 h3 => hd_0_ok h3, fun h => (h rfl).elim⟩
theorem ok_193 (hl : l.stackTraces = false) : okMj l n0 sa sv 193 ∧ okHj n0 sa sv 193 := by
  refine ⟨fun C nL h => ?_, fun C nL h => ?_⟩
  · obtain ⟨rfl, rfl⟩ : C_X12_keeps = C ∧ 2 = nL := Prod.mk.injEq _ _ _ _ ▸ Option.some.inj h
    exact ⟨rfl, plain_ok (by decide), rfl, (fun h => by cases h), fun s args h1 h2 => pm_T_of hl cl_all ar_all ik_X12_keeps ck_X12_keeps s args h2 (fun L xs h => by cases h)⟩
  · obtain ⟨rfl, rfl⟩ : C_X12_keeps = C ∧ 2 = nL := Prod.mk.injEq _ _ _ _ ▸ Option.some.inj h
    exact ⟨fun s args c h1 h2 h3 => hd_0_ok h3, fun h => (h rfl).elim⟩
theorem ok_194 (hl : l.stackTraces = false) : okMj l n0 sa sv 194 ∧ okHj n0 sa sv 194 := by
  refine ⟨fun C nL h => ?_, fun C nL h => ?_⟩
  · obtain ⟨rfl, rfl⟩ : C_X12_refuses = C ∧ 2 = nL := Prod.mk.injEq _ _ _ _ ▸ Option.some.inj h
    exact ⟨rfl, plain_ok (by decide), rfl, (fun h => by cases h), fun s args h1 h2 => pm_T_of hl cl_all ar_all ik_X12_refuses ck_X12_refuses s args h2 (fun L xs h => by cases h)⟩
  · obtain ⟨rfl, rfl⟩ : C_X12_refuses = C ∧ 2 = nL := Prod.mk.injEq _ _ _ _ ▸ Option.some.inj h
    exact ⟨fun s args c h1 h2 h3 => hd_0_ok h3, fun h => (h rfl).elim⟩
theorem ok_195 (hl : l.stackTraces = false) : okMj l n0 sa sv 195 ∧ okHj n0 sa sv 195 := by
  refine ⟨fun C nL h => ?_, fun C nL h => ?_⟩
  · obtain ⟨rfl, rfl⟩ : C_X12_undo = C ∧ 2 = nL := Prod.mk.injEq _ _ _ _ ▸ Option.some.inj h
    exact ⟨rfl, plain_ok (by decide), rfl, (fun h => by cases h), fun s args h1 h2 => pm_T_of hl cl_all ar_all ik_X12_undo ck_X12_undo s args h2 (fun L xs h => by cases h)⟩
  · obtain ⟨rfl, rfl⟩ : C_X12_undo = C ∧ 2 = nL := Prod.mk.injEq _ _ _ _ ▸ Option.some.inj h
    exact ⟨fun s args c h1 h2 h3 => hd_0_ok h3, fun h => (h rfl).elim⟩
theorem ok_196 (hl : l.stackTraces = false) : okMj l n0 sa sv 196 ∧ okHj n0 sa sv 196 := by
  refine ⟨fun C nL h => ?_, fun C nL h => ?_⟩
  · obtain ⟨rfl, rfl⟩ : C_X12_tries = C ∧ 2 = nL := Prod.mk.injEq _ _ _ _ ▸ Option.some.inj h
    exact ⟨rfl, plain_ok (by decide), rfl, (fun h => by cases h), fun s args h1 h2 => pm_T_of hl cl_all ar_all ik_X12_tries ck_X12_tries s args h2 (fun L xs h => by cases h)⟩
  · obtain ⟨rfl, rfl⟩ : C_X12_tries = C ∧ 2 = nL := Prod.mk.injEq _ _ _ _ ▸ Option.some.inj h
    exact ⟨fun s args c h1 h2 h3 => hd_0_ok h3, fun h => (h rfl).elim⟩
theorem ok_197 (hl : l.stackTraces = false) : okMj l n0 sa sv 197 ∧ okHj n0 sa sv 197 := by
  refine ⟨fun C nL h => ?_, fun C nL h => ?_⟩
  · obtain ⟨rfl, rfl⟩ : C_X12_works = C ∧ 3 = nL := Prod.mk.injEq _ _ _ _ ▸ Option.some.inj h
    exact ⟨rfl, plain_ok (by decide), rfl, (fun h => by cases h), fun s args h1 h2 => pm_T_of hl cl_all ar_all ik_X12_works ck_X12_works s args h2 (fun L xs h => by cases h)⟩
  · obtain ⟨rfl, rfl⟩ : C_X12_works = C ∧ 3 = nL := Prod.mk.injEq _ _ _ _ ▸ Option.some.inj h
    exact ⟨fun s args c h1 h2 h3 => hd_0_ok h3, fun h => (h rfl).elim⟩
theorem ok_198 (hl : l.stackTraces = false) : okMj l n0 sa sv 198 ∧ okHj n0 sa sv 198 := by
  refine ⟨fun C nL h => ?_, fun C nL h => ?_⟩
  · obtain ⟨rfl, rfl⟩ : C_X12_reckons = C ∧ 5 = nL := Prod.mk.injEq _ _ _ _ ▸ Option.some.inj h
    exact ⟨rfl, plain_ok (by decide), rfl, (fun h => by cases h), fun s args h1 h2 => pm_T_of hl cl_all ar_all ik_X12_reckons ck_X12_reckons s args h2 (fun L xs h => by cases h)⟩
  · obtain ⟨rfl, rfl⟩ : C_X12_reckons = C ∧ 5 = nL := Prod.mk.injEq _ _ _ _ ▸ Option.some.inj h
    exact ⟨fun s args c h1 h2 h3 => hd_0_ok h3, fun h => (h rfl).elim⟩
theorem ok_199 (hl : l.stackTraces = false) : okMj l n0 sa sv 199 ∧ okHj n0 sa sv 199 := by
  refine ⟨fun C nL h => ?_, fun C nL h => ?_⟩
  · obtain ⟨rfl, rfl⟩ : C_X12_lightAt = C ∧ 2 = nL := Prod.mk.injEq _ _ _ _ ▸ Option.some.inj h
    exact ⟨rfl, plain_ok (by decide), rfl, (fun h => by cases h), fun s args h1 h2 => pm_T_of hl cl_all ar_all ik_X12_lightAt ck_X12_lightAt s args h2 (fun L xs h => by cases h)⟩
  · obtain ⟨rfl, rfl⟩ : C_X12_lightAt = C ∧ 2 = nL := Prod.mk.injEq _ _ _ _ ▸ Option.some.inj h
    exact ⟨fun s args c h1 h2 h3 => hd_0_ok h3, fun h => (h rfl).elim⟩
theorem ok_200 (hl : l.stackTraces = false) : okMj l n0 sa sv 200 ∧ okHj n0 sa sv 200 := by
  refine ⟨fun C nL h => ?_, fun C nL h => ?_⟩
  · obtain ⟨rfl, rfl⟩ : C_X12_isDull = C ∧ 2 = nL := Prod.mk.injEq _ _ _ _ ▸ Option.some.inj h
    exact ⟨rfl, plain_ok (by decide), rfl, (fun h => by cases h), fun s args h1 h2 => pm_T_of hl cl_all ar_all ik_X12_isDull ck_X12_isDull s args h2 (fun L xs h => by cases h)⟩
  · obtain ⟨rfl, rfl⟩ : C_X12_isDull = C ∧ 2 = nL := Prod.mk.injEq _ _ _ _ ▸ Option.some.inj h
    exact ⟨fun s args c h1 h2 h3 => hd_0_ok h3, fun h => (h rfl).elim⟩
theorem ok_201 (hl : l.stackTraces = false) : okMj l n0 sa sv 201 ∧ okHj n0 sa sv 201 := by
  refine ⟨fun C nL h => ?_, fun C nL h => ?_⟩
  · obtain ⟨rfl, rfl⟩ : C_X12_atCell = C ∧ 5 = nL := Prod.mk.injEq _ _ _ _ ▸ Option.some.inj h
    exact ⟨rfl, plain_ok (by decide), rfl, (fun h => by cases h), fun s args h1 h2 => pm_T_of hl cl_all ar_all ik_X12_atCell ck_X12_atCell s args h2 (fun L xs h => by cases h)⟩
  · obtain ⟨rfl, rfl⟩ : C_X12_atCell = C ∧ 5 = nL := Prod.mk.injEq _ _ _ _ ▸ Option.some.inj h
    exact ⟨fun s args c h1 h2 h3 => hd_0_ok h3, fun h => (h rfl).elim⟩
theorem ok_202 (hl : l.stackTraces = false) : okMj l n0 sa sv 202 ∧ okHj n0 sa sv 202 := by
  refine ⟨fun C nL h => ?_, fun C nL h => ?_⟩
  · obtain ⟨rfl, rfl⟩ : C_X12_withIt = C ∧ 3 = nL := Prod.mk.injEq _ _ _ _ ▸ Option.some.inj h
    exact ⟨rfl, plain_ok (by decide), rfl, (fun h => by cases h), fun s args h1 h2 => pm_T_of hl cl_all ar_all ik_X12_withIt ck_X12_withIt s args h2 (fun L xs h => by cases h)⟩
  · obtain ⟨rfl, rfl⟩ : C_X12_withIt = C ∧ 3 = nL := Prod.mk.injEq _ _ _ _ ▸ Option.some.inj h
    exact ⟨fun s args c h1 h2 h3 => hd_0_ok h3, fun h => (h rfl).elim⟩
theorem ok_203 (hl : l.stackTraces = false) : okMj l n0 sa sv 203 ∧ okHj n0 sa sv 203 := by
  refine ⟨fun C nL h => ?_, fun C nL h => ?_⟩
  · obtain ⟨rfl, rfl⟩ : C_X12_stepOf = C ∧ 3 = nL := Prod.mk.injEq _ _ _ _ ▸ Option.some.inj h
    exact ⟨rfl, plain_ok (by decide), rfl, (fun h => by cases h), fun s args h1 h2 => pm_T_of hl cl_all ar_all ik_X12_stepOf ck_X12_stepOf s args h2 (fun L xs h => by cases h)⟩
  · obtain ⟨rfl, rfl⟩ : C_X12_stepOf = C ∧ 3 = nL := Prod.mk.injEq _ _ _ _ ▸ Option.some.inj h
    exact ⟨fun s args c h1 h2 h3 => hd_0_ok h3, fun h => (h rfl).elim⟩
theorem ok_204 (hl : l.stackTraces = false) : okMj l n0 sa sv 204 ∧ okHj n0 sa sv 204 := by
  refine ⟨fun C nL h => ?_, fun C nL h => ?_⟩
  · obtain ⟨rfl, rfl⟩ : C_X12_tells = C ∧ 3 = nL := Prod.mk.injEq _ _ _ _ ▸ Option.some.inj h
    exact ⟨rfl, plain_ok (by decide), rfl, (fun h => by cases h), fun s args h1 h2 => pm_T_of hl cl_all ar_all ik_X12_tells ck_X12_tells s args h2 (fun L xs h => by cases h)⟩
  · obtain ⟨rfl, rfl⟩ : C_X12_tells = C ∧ 3 = nL := Prod.mk.injEq _ _ _ _ ▸ Option.some.inj h
    exact ⟨fun s args c h1 h2 h3 => hd_0_ok h3, fun h => (h rfl).elim⟩
theorem ok_205 (hl : l.stackTraces = false) : okMj l n0 sa sv 205 ∧ okHj n0 sa sv 205 := by
  refine ⟨fun C nL h => ?_, fun C nL h => ?_⟩
  · obtain ⟨rfl, rfl⟩ : C_X12_hurtsBy = C ∧ 3 = nL := Prod.mk.injEq _ _ _ _ ▸ Option.some.inj h
    exact ⟨rfl, plain_ok (by decide), rfl, (fun h => by cases h), fun s args h1 h2 => pm_T_of hl cl_all ar_all ik_X12_hurtsBy ck_X12_hurtsBy s args h2 (fun L xs h => by cases h)⟩
  · obtain ⟨rfl, rfl⟩ : C_X12_hurtsBy = C ∧ 3 = nL := Prod.mk.injEq _ _ _ _ ▸ Option.some.inj h
    exact ⟨fun s args c h1 h2 h3 => hd_0_ok h3, fun h => (h rfl).elim⟩
theorem ok_206 (hl : l.stackTraces = false) : okMj l n0 sa sv 206 ∧ okHj n0 sa sv 206 := by
  refine ⟨fun C nL h => ?_, fun C nL h => ?_⟩
  · obtain ⟨rfl, rfl⟩ : C_X12_isGoing = C ∧ 3 = nL := Prod.mk.injEq _ _ _ _ ▸ Option.some.inj h
    exact ⟨rfl, plain_ok (by decide), rfl, (fun h => by cases h), fun s args h1 h2 => pm_T_of hl cl_all ar_all ik_X12_isGoing ck_X12_isGoing s args h2 (fun L xs h => by cases h)⟩
  · obtain ⟨rfl, rfl⟩ : C_X12_isGoing = C ∧ 3 = nL := Prod.mk.injEq _ _ _ _ ▸ Option.some.inj h
    exact ⟨fun s args c h1 h2 h3 => hd_0_ok h3, fun h => (h rfl).elim⟩
theorem ok_207 (hl : l.stackTraces = false) : okMj l n0 sa sv 207 ∧ okHj n0 sa sv 207 := by
  refine ⟨fun C nL h => ?_, fun C nL h => ?_⟩
  · obtain ⟨rfl, rfl⟩ : C_X12_beside = C ∧ 3 = nL := Prod.mk.injEq _ _ _ _ ▸ Option.some.inj h
    exact ⟨rfl, plain_ok (by decide), rfl, (fun h => by cases h), fun s args h1 h2 => pm_T_of hl cl_all ar_all ik_X12_beside ck_X12_beside s args h2 (fun L xs h => by cases h)⟩
  · obtain ⟨rfl, rfl⟩ : C_X12_beside = C ∧ 3 = nL := Prod.mk.injEq _ _ _ _ ▸ Option.some.inj h
    exact ⟨fun s args c h1 h2 h3 => hd_0_ok h3, fun h => (h rfl).elim⟩
theorem ok_208 (hl : l.stackTraces = false) : okMj l n0 sa sv 208 ∧ okHj n0 sa sv 208 := by
  refine ⟨fun C nL h => ?_, fun C nL h => ?_⟩
  · obtain ⟨rfl, rfl⟩ : C_X12_figureGoes = C ∧ 4 = nL := Prod.mk.injEq _ _ _ _ ▸ Option.some.inj h
    exact ⟨rfl, plain_ok (by decide), rfl, (fun h => by cases h), fun s args h1 h2 => pm_T_of hl cl_all ar_all ik_X12_figureGoes ck_X12_figureGoes s args h2 (fun L xs h => by cases h)⟩
  · obtain ⟨rfl, rfl⟩ : C_X12_figureGoes = C ∧ 4 = nL := Prod.mk.injEq _ _ _ _ ▸ Option.some.inj h
    exact ⟨fun s args c h1 h2 h3 => hd_0_ok h3, fun h => (h rfl).elim⟩
theorem ok_209 (hl : l.stackTraces = false) : okMj l n0 sa sv 209 ∧ okHj n0 sa sv 209 := by
  refine ⟨fun C nL h => ?_, fun C nL h => ?_⟩
  · obtain ⟨rfl, rfl⟩ : C_X12_hourGoes = C ∧ 3 = nL := Prod.mk.injEq _ _ _ _ ▸ Option.some.inj h
    exact ⟨rfl, plain_ok (by decide), rfl, (fun h => by cases h), fun s args h1 h2 => pm_T_of hl cl_all ar_all ik_X12_hourGoes ck_X12_hourGoes s args h2 (fun L xs h => by cases h)⟩
  · obtain ⟨rfl, rfl⟩ : C_X12_hourGoes = C ∧ 3 = nL := Prod.mk.injEq _ _ _ _ ▸ Option.some.inj h
    exact ⟨fun s args c h1 h2 h3 => hd_0_ok h3, fun h => (h rfl).elim⟩
theorem ok_210 (hl : l.stackTraces = false) : okMj l n0 sa sv 210 ∧ okHj n0 sa sv 210 := by
  refine ⟨fun C nL h => ?_, fun C nL h => ?_⟩
  · obtain ⟨rfl, rfl⟩ : C_X12_hoursGo = C ∧ 3 = nL := Prod.mk.injEq _ _ _ _ ▸ Option.some.inj h
    exact ⟨rfl, plain_ok (by decide), rfl, (fun h => by cases h), fun s args h1 h2 => pm_T_of hl cl_all ar_all ik_X12_hoursGo ck_X12_hoursGo s args h2 (fun L xs h => by cases h)⟩
  · obtain ⟨rfl, rfl⟩ : C_X12_hoursGo = C ∧ 3 = nL := Prod.mk.injEq _ _ _ _ ▸ Option.some.inj h
    exact ⟨fun s args c h1 h2 h3 => hd_0_ok h3, fun h => (h rfl).elim⟩
theorem ok_211 (hl : l.stackTraces = false) : okMj l n0 sa sv 211 ∧ okHj n0 sa sv 211 := by
  refine ⟨fun C nL h => ?_, fun C nL h => ?_⟩
  · obtain ⟨rfl, rfl⟩ : C_X12_sumOf = C ∧ 6 = nL := Prod.mk.injEq _ _ _ _ ▸ Option.some.inj h
    exact ⟨rfl, plain_ok (by decide), rfl, (fun h => by cases h), fun s args h1 h2 => pm_T_of hl cl_all ar_all ik_X12_sumOf ck_X12_sumOf s args h2 (fun L xs h => by cases h)⟩
  · obtain ⟨rfl, rfl⟩ : C_X12_sumOf = C ∧ 6 = nL := Prod.mk.injEq _ _ _ _ ▸ Option.some.inj h
    exact ⟨fun s args c h1 h2 h3 => hd_0_ok h3, fun h => (h rfl).elim⟩
theorem ok_212 (hl : l.stackTraces = false) : okMj l n0 sa sv 212 ∧ okHj n0 sa sv 212 := by
  refine ⟨fun C nL h => ?_, fun C nL h => ?_⟩
  · obtain ⟨rfl, rfl⟩ : C_X12_heldOnes = C ∧ 3 = nL := Prod.mk.injEq _ _ _ _ ▸ Option.some.inj h
    exact ⟨rfl, plain_ok (by decide), rfl, (fun h => by cases h), fun s args h1 h2 => pm_T_of hl cl_all ar_all ik_X12_heldOnes ck_X12_heldOnes s args h2 (fun L xs h => by cases h)⟩
  · obtain ⟨rfl, rfl⟩ : C_X12_heldOnes = C ∧ 3 = nL := Prod.mk.injEq _ _ _ _ ▸ Option.some.inj h
    exact ⟨fun s args c h1 h2 h3 => hd_0_ok h3, fun h => (h rfl).elim⟩
theorem ok_213 (hl : l.stackTraces = false) : okMj l n0 sa sv 213 ∧ okHj n0 sa sv 213 := by
  refine ⟨fun C nL h => ?_, fun C nL h => ?_⟩
  · obtain ⟨rfl, rfl⟩ : C_X12_laysFar = C ∧ 7 = nL := Prod.mk.injEq _ _ _ _ ▸ Option.some.inj h
    exact ⟨rfl, plain_ok (by decide), rfl, (fun h => by cases h), fun s args h1 h2 => pm_T_of hl cl_all ar_all ik_X12_laysFar ck_X12_laysFar s args h2 (fun L xs h => by cases h)⟩
  · obtain ⟨rfl, rfl⟩ : C_X12_laysFar = C ∧ 7 = nL := Prod.mk.injEq _ _ _ _ ▸ Option.some.inj h
    exact ⟨fun s args c h1 h2 h3 => hd_0_ok h3, fun h => (h rfl).elim⟩
theorem ok_214 (hl : l.stackTraces = false) : okMj l n0 sa sv 214 ∧ okHj n0 sa sv 214 := by
  refine ⟨fun C nL h => ?_, fun C nL h => ?_⟩
  · obtain ⟨rfl, rfl⟩ : C_X12_parts = C ∧ 5 = nL := Prod.mk.injEq _ _ _ _ ▸ Option.some.inj h
    exact ⟨rfl, plain_ok (by decide), rfl, (fun h => by cases h), fun s args h1 h2 => pm_T_of hl cl_all ar_all ik_X12_parts ck_X12_parts s args h2 (fun L xs h => by cases h)⟩
  · obtain ⟨rfl, rfl⟩ : C_X12_parts = C ∧ 5 = nL := Prod.mk.injEq _ _ _ _ ▸ Option.some.inj h
    exact ⟨fun s args c h1 h2 h3 => hd_0_ok h3, fun h => (h rfl).elim⟩
theorem ok_215 (hl : l.stackTraces = false) : okMj l n0 sa sv 215 ∧ okHj n0 sa sv 215 := by
  refine ⟨fun C nL h => ?_, fun C nL h => ?_⟩
  · obtain ⟨rfl, rfl⟩ : C_X12_count = C ∧ 2 = nL := Prod.mk.injEq _ _ _ _ ▸ Option.some.inj h
    exact ⟨rfl, plain_ok (by decide), rfl, (fun h => by cases h), fun s args h1 h2 => pm_T_of hl cl_all ar_all ik_X12_count ck_X12_count s args h2 (fun L xs h => by cases h)⟩
  · obtain ⟨rfl, rfl⟩ : C_X12_count = C ∧ 2 = nL := Prod.mk.injEq _ _ _ _ ▸ Option.some.inj h
    exact ⟨fun s args c h1 h2 h3 => hd_0_ok h3, fun h => (h rfl).elim⟩
theorem ok_216 (hl : l.stackTraces = false) : okMj l n0 sa sv 216 ∧ okHj n0 sa sv 216 := by
  refine ⟨fun C nL h => ?_, fun C nL h => ?_⟩
  · obtain ⟨rfl, rfl⟩ : C_X12_isFigure = C ∧ 2 = nL := Prod.mk.injEq _ _ _ _ ▸ Option.some.inj h
    exact ⟨rfl, plain_ok (by decide), rfl, (fun h => by cases h), fun s args h1 h2 => pm_T_of hl cl_all ar_all ik_X12_isFigure ck_X12_isFigure s args h2 (fun L xs h => by cases h)⟩
  · obtain ⟨rfl, rfl⟩ : C_X12_isFigure = C ∧ 2 = nL := Prod.mk.injEq _ _ _ _ ▸ Option.some.inj h
    exact ⟨fun s args c h1 h2 h3 => hd_0_ok h3, fun h => (h rfl).elim⟩
theorem ok_217 (hl : l.stackTraces = false) : okMj l n0 sa sv 217 ∧ okHj n0 sa sv 217 := by
  refine ⟨fun C nL h => ?_, fun C nL h => ?_⟩
  · obtain ⟨rfl, rfl⟩ : C_X12_isCell = C ∧ 2 = nL := Prod.mk.injEq _ _ _ _ ▸ Option.some.inj h
    exact ⟨rfl, plain_ok (by decide), rfl, (fun h => by cases h), fun s args h1 h2 => pm_T_of hl cl_all ar_all ik_X12_isCell ck_X12_isCell s args h2 (fun L xs h => by cases h)⟩
  · obtain ⟨rfl, rfl⟩ : C_X12_isCell = C ∧ 2 = nL := Prod.mk.injEq _ _ _ _ ▸ Option.some.inj h
    exact ⟨fun s args c h1 h2 h3 => hd_0_ok h3, fun h => (h rfl).elim⟩
theorem ok_218 (hl : l.stackTraces = false) : okMj l n0 sa sv 218 ∧ okHj n0 sa sv 218 := by
  refine ⟨fun C nL h => ?_, fun C nL h => ?_⟩
  · obtain ⟨rfl, rfl⟩ : C_X12_isWhat = C ∧ 3 = nL := Prod.mk.injEq _ _ _ _ ▸ Option.some.inj h
    exact ⟨rfl, plain_ok (by decide), rfl, (fun h => by cases h), fun s args h1 h2 => pm_T_of hl cl_all ar_all ik_X12_isWhat ck_X12_isWhat s args h2 (fun L xs h => by cases h)⟩
  · obtain ⟨rfl, rfl⟩ : C_X12_isWhat = C ∧ 3 = nL := Prod.mk.injEq _ _ _ _ ▸ Option.some.inj h
    exact ⟨fun s args c h1 h2 h3 => hd_0_ok h3, fun h => (h rfl).elim⟩
theorem ok_219 (hl : l.stackTraces = false) : okMj l n0 sa sv 219 ∧ okHj n0 sa sv 219 := by
  refine ⟨fun C nL h => ?_, fun C nL h => ?_⟩
  · obtain ⟨rfl, rfl⟩ : C_X12_isSoon = C ∧ 4 = nL := Prod.mk.injEq _ _ _ _ ▸ Option.some.inj h
    exact ⟨rfl, plain_ok (by decide), rfl, (fun h => by cases h), fun s args h1 h2 => pm_T_of hl cl_all ar_all ik_X12_isSoon ck_X12_isSoon s args h2 (fun L xs h => by cases h)⟩
  · obtain ⟨rfl, rfl⟩ : C_X12_isSoon = C ∧ 4 = nL := Prod.mk.injEq _ _ _ _ ▸ Option.some.inj h
    exact ⟨fun s args c h1 h2 h3 => hd_0_ok h3, fun h => (h rfl).elim⟩
theorem ok_220 (hl : l.stackTraces = false) : okMj l n0 sa sv 220 ∧ okHj n0 sa sv 220 := by
  refine ⟨fun C nL h => ?_, fun C nL h => ?_⟩
  · obtain ⟨rfl, rfl⟩ : C_X12_figure = C ∧ 3 = nL := Prod.mk.injEq _ _ _ _ ▸ Option.some.inj h
    exact ⟨rfl, plain_ok (by decide), rfl, (fun h => by cases h), fun s args h1 h2 => pm_T_of hl cl_all ar_all ik_X12_figure ck_X12_figure s args h2 (fun L xs h => by cases h)⟩
  · obtain ⟨rfl, rfl⟩ : C_X12_figure = C ∧ 3 = nL := Prod.mk.injEq _ _ _ _ ▸ Option.some.inj h
    exact ⟨fun s args c h1 h2 h3 => hd_0_ok h3, fun h => (h rfl).elim⟩
theorem ok_221 (hl : l.stackTraces = false) : okMj l n0 sa sv 221 ∧ okHj n0 sa sv 221 := by
  refine ⟨fun C nL h => ?_, fun C nL h => ?_⟩
  · obtain ⟨rfl, rfl⟩ : C_X12_seenFrom = C ∧ 5 = nL := Prod.mk.injEq _ _ _ _ ▸ Option.some.inj h
    exact ⟨rfl, plain_ok (by decide), rfl, (fun h => by cases h), fun s args h1 h2 => pm_T_of hl cl_all ar_all ik_X12_seenFrom ck_X12_seenFrom s args h2 (fun L xs h => by cases h)⟩
  · obtain ⟨rfl, rfl⟩ : C_X12_seenFrom = C ∧ 5 = nL := Prod.mk.injEq _ _ _ _ ▸ Option.some.inj h
    exact ⟨fun s args c h1 h2 h3 => hd_0_ok h3, fun h => (h rfl).elim⟩
theorem ok_222 (hl : l.stackTraces = false) : okMj l n0 sa sv 222 ∧ okHj n0 sa sv 222 := by
  refine ⟨fun C nL h => ?_, fun C nL h => ?_⟩
  · obtain ⟨rfl, rfl⟩ : C_X12_cell = C ∧ 5 = nL := Prod.mk.injEq _ _ _ _ ▸ Option.some.inj h
    exact ⟨rfl, plain_ok (by decide), rfl, (fun h => by cases h), fun s args h1 h2 => pm_T_of hl cl_all ar_all ik_X12_cell ck_X12_cell s args h2 (fun L xs h => by cases h)⟩
  · obtain ⟨rfl, rfl⟩ : C_X12_cell = C ∧ 5 = nL := Prod.mk.injEq _ _ _ _ ▸ Option.some.inj h
    exact ⟨fun s args c h1 h2 h3 => hd_0_ok h3, fun h => (h rfl).elim⟩
theorem ok_223 (hl : l.stackTraces = false) : okMj l n0 sa sv 223 ∧ okHj n0 sa sv 223 := by
  refine ⟨fun C nL h => ?_, fun C nL h => ?_⟩
  · obtain ⟨rfl, rfl⟩ : C_X12_hours = C ∧ 3 = nL := Prod.mk.injEq _ _ _ _ ▸ Option.some.inj h
    exact ⟨rfl, plain_ok (by decide), rfl, (fun h => by cases h), fun s args h1 h2 => pm_T_of hl cl_all ar_all ik_X12_hours ck_X12_hours s args h2 (fun L xs h => by cases h)⟩
  · obtain ⟨rfl, rfl⟩ : C_X12_hours = C ∧ 3 = nL := Prod.mk.injEq _ _ _ _ ▸ Option.some.inj h
    exact ⟨fun s args c h1 h2 h3 => hd_0_ok h3, fun h => (h rfl).elim⟩
theorem ok_224 (hl : l.stackTraces = false) : okMj l n0 sa sv 224 ∧ okHj n0 sa sv 224 := by
  refine ⟨fun C nL h => ?_, fun C nL h => ?_⟩
  · obtain ⟨rfl, rfl⟩ : C_X12_stop = C ∧ 3 = nL := Prod.mk.injEq _ _ _ _ ▸ Option.some.inj h
    exact ⟨rfl, plain_ok (by decide), rfl, (fun h => by cases h), fun s args h1 h2 => pm_T_of hl cl_all ar_all ik_X12_stop ck_X12_stop s args h2 (fun L xs h => by cases h)⟩
  · obtain ⟨rfl, rfl⟩ : C_X12_stop = C ∧ 3 = nL := Prod.mk.injEq _ _ _ _ ▸ Option.some.inj h
    exact ⟨fun s args c h1 h2 h3 => hd_0_ok h3, fun h => (h rfl).elim⟩
theorem ok_225 (hl : l.stackTraces = false) : okMj l n0 sa sv 225 ∧ okHj n0 sa sv 225 := by
  refine ⟨fun C nL h => ?_, fun C nL h => ?_⟩
  · obtain ⟨rfl, rfl⟩ : C_X12_lift = C ∧ 4 = nL := Prod.mk.injEq _ _ _ _ ▸ Option.some.inj h
    exact ⟨rfl, plain_ok (by decide), rfl, (fun h => by cases h), fun s args h1 h2 => pm_T_of hl cl_all ar_all ik_X12_lift ck_X12_lift s args h2 (fun L xs h => by cases h)⟩
  · obtain ⟨rfl, rfl⟩ : C_X12_lift = C ∧ 4 = nL := Prod.mk.injEq _ _ _ _ ▸ Option.some.inj h
    exact ⟨fun s args c h1 h2 h3 => hd_0_ok h3, fun h => (h rfl).elim⟩
theorem ok_226 (hl : l.stackTraces = false) : okMj l n0 sa sv 226 ∧ okHj n0 sa sv 226 := by
  refine ⟨fun C nL h => ?_, fun C nL h => ?_⟩
  · obtain ⟨rfl, rfl⟩ : C_X12_brush = C ∧ 3 = nL := Prod.mk.injEq _ _ _ _ ▸ Option.some.inj h
    exact ⟨rfl, plain_ok (by decide), rfl, (fun h => by cases h), fun s args h1 h2 => pm_T_of hl cl_all ar_all ik_X12_brush ck_X12_brush s args h2 (fun L xs h => by cases h)⟩
  · obtain ⟨rfl, rfl⟩ : C_X12_brush = C ∧ 3 = nL := Prod.mk.injEq _ _ _ _ ▸ Option.some.inj h
    exact ⟨fun s args c h1 h2 h3 => hd_0_ok h3, fun h => (h rfl).elim⟩
theorem ok_227 (hl : l.stackTraces = false) : okMj l n0 sa sv 227 ∧ okHj n0 sa sv 227 := by
  refine ⟨fun C nL h => ?_, fun C nL h => ?_⟩
  · obtain ⟨rfl, rfl⟩ : C_X12_wall = C ∧ 5 = nL := Prod.mk.injEq _ _ _ _ ▸ Option.some.inj h
    exact ⟨rfl, plain_ok (by decide), rfl, (fun h => by cases h), fun s args h1 h2 => pm_T_of hl cl_all ar_all ik_X12_wall ck_X12_wall s args h2 (fun L xs h => by cases h)⟩
  · obtain ⟨rfl, rfl⟩ : C_X12_wall = C ∧ 5 = nL := Prod.mk.injEq _ _ _ _ ▸ Option.some.inj h
    exact ⟨fun s args c h1 h2 h3 => hd_0_ok h3, fun h => (h rfl).elim⟩
theorem ok_228 (hl : l.stackTraces = false) : okMj l n0 sa sv 228 ∧ okHj n0 sa sv 228 := by
  refine ⟨fun C nL h => ?_, fun C nL h => ?_⟩
  · obtain ⟨rfl, rfl⟩ : C_X12_goesTo = C ∧ 2 = nL := Prod.mk.injEq _ _ _ _ ▸ Option.some.inj h
    exact ⟨rfl, plain_ok (by decide), rfl, (fun h => by cases h), fun s args h1 h2 => pm_T_of hl cl_all ar_all ik_X12_goesTo ck_X12_goesTo s args h2 (fun L xs h => by cases h)⟩
  · obtain ⟨rfl, rfl⟩ : C_X12_goesTo = C ∧ 2 = nL := Prod.mk.injEq _ _ _ _ ▸ Option.some.inj h
    exact ⟨fun s args c h1 h2 h3 => hd_0_ok h3, fun h => (h rfl).elim⟩
theorem ok_229 (hl : l.stackTraces = false) : okMj l n0 sa sv 229 ∧ okHj n0 sa sv 229 := by
  refine ⟨fun C nL h => ?_, fun C nL h => ?_⟩
  · obtain ⟨rfl, rfl⟩ : C_X12_then = C ∧ 4 = nL := Prod.mk.injEq _ _ _ _ ▸ Option.some.inj h
    exact ⟨rfl, plain_ok (by decide), rfl, (fun h => by cases h), fun s args h1 h2 => pm_T_of hl cl_all ar_all ik_X12_then ck_X12_then s args h2 (fun L xs h => by cases h)⟩
  · obtain ⟨rfl, rfl⟩ : C_X12_then = C ∧ 4 = nL := Prod.mk.injEq _ _ _ _ ▸ Option.some.inj h
    exact ⟨fun s args c h1 h2 h3 => hd_0_ok h3, fun h => (h rfl).elim⟩
theorem ok_230 (hl : l.stackTraces = false) : okMj l n0 sa sv 230 ∧ okHj n0 sa sv 230 := by
  refine ⟨fun C nL h => ?_, fun C nL h => ?_⟩
  · obtain ⟨rfl, rfl⟩ : C_X12_comes = C ∧ 4 = nL := Prod.mk.injEq _ _ _ _ ▸ Option.some.inj h
    exact ⟨rfl, plain_ok (by decide), rfl, (fun h => by cases h), fun s args h1 h2 => pm_T_of hl cl_all ar_all ik_X12_comes ck_X12_comes s args h2 (fun L xs h => by cases h)⟩
  · obtain ⟨rfl, rfl⟩ : C_X12_comes = C ∧ 4 = nL := Prod.mk.injEq _ _ _ _ ▸ Option.some.inj h
    exact ⟨fun s args c h1 h2 h3 => hd_0_ok h3, fun h => (h rfl).elim⟩
theorem ok_231 (hl : l.stackTraces = false) : okMj l n0 sa sv 231 ∧ okHj n0 sa sv 231 := by
  refine ⟨fun C nL h => ?_, fun C nL h => ?_⟩
  · obtain ⟨rfl, rfl⟩ : C_X12_meet = C ∧ 4 = nL := Prod.mk.injEq _ _ _ _ ▸ Option.some.inj h
    exact ⟨rfl, plain_ok (by decide), rfl, (fun h => by cases h), fun s args h1 h2 => pm_T_of hl cl_all ar_all ik_X12_meet ck_X12_meet s args h2 (fun L xs h => by cases h)⟩
  · obtain ⟨rfl, rfl⟩ : C_X12_meet = C ∧ 4 = nL := Prod.mk.injEq _ _ _ _ ▸ Option.some.inj h
    exact ⟨fun s args c h1 h2 h3 => hd_0_ok h3, fun h => (h rfl).elim⟩
theorem ok_232 (hl : l.stackTraces = false) : okMj l n0 sa sv 232 ∧ okHj n0 sa sv 232 := by
  refine ⟨fun C nL h => ?_, fun C nL h => ?_⟩
  · obtain ⟨rfl, rfl⟩ : C_X12_mostOften = C ∧ 3 = nL := Prod.mk.injEq _ _ _ _ ▸ Option.some.inj h
    exact ⟨rfl, plain_ok (by decide), rfl, (fun h => by cases h), fun s args h1 h2 => pm_T_of hl cl_all ar_all ik_X12_mostOften ck_X12_mostOften s args h2 (fun L xs h => by cases h)⟩
  · obtain ⟨rfl, rfl⟩ : C_X12_mostOften = C ∧ 3 = nL := Prod.mk.injEq _ _ _ _ ▸ Option.some.inj h
    exact ⟨fun s args c h1 h2 h3 => hd_0_ok h3, fun h => (h rfl).elim⟩
theorem ok_233 (hl : l.stackTraces = false) : okMj l n0 sa sv 233 ∧ okHj n0 sa sv 233 := by
  refine ⟨fun C nL h => ?_, fun C nL h => ?_⟩
  · obtain ⟨rfl, rfl⟩ : C_X12_clears = C ∧ 2 = nL := Prod.mk.injEq _ _ _ _ ▸ Option.some.inj h
    exact ⟨rfl, plain_ok (by decide), rfl, (fun h => by cases h), fun s args h1 h2 => pm_T_of hl cl_all ar_all ik_X12_clears ck_X12_clears s args h2 (fun L xs h => by cases h)⟩
  · obtain ⟨rfl, rfl⟩ : C_X12_clears = C ∧ 2 = nL := Prod.mk.injEq _ _ _ _ ▸ Option.some.inj h
    exact ⟨fun s args c h1 h2 h3 => hd_0_ok h3, fun h => (h rfl).elim⟩
theorem ok_234 (hl : l.stackTraces = false) : okMj l n0 sa sv 234 ∧ okHj n0 sa sv 234 := by
  refine ⟨fun C nL h => ?_, fun C nL h => ?_⟩
  · obtain ⟨rfl, rfl⟩ : C_X12_marks = C ∧ 2 = nL := Prod.mk.injEq _ _ _ _ ▸ Option.some.inj h
    exact ⟨rfl, plain_ok (by decide), rfl, (fun h => by cases h), fun s args h1 h2 => pm_T_of hl cl_all ar_all ik_X12_marks ck_X12_marks s args h2 (fun L xs h => by cases h)⟩
  · obtain ⟨rfl, rfl⟩ : C_X12_marks = C ∧ 2 = nL := Prod.mk.injEq _ _ _ _ ▸ Option.some.inj h
    exact ⟨fun s args c h1 h2 h3 => hd_0_ok h3, fun h => (h rfl).elim⟩
theorem ok_235 (hl : l.stackTraces = false) : okMj l n0 sa sv 235 ∧ okHj n0 sa sv 235 := by
  refine ⟨fun C nL h => ?_, fun C nL h => ?_⟩
  · obtain ⟨rfl, rfl⟩ : C_X12_crowd = C ∧ 4 = nL := Prod.mk.injEq _ _ _ _ ▸ Option.some.inj h
    exact ⟨rfl, plain_ok (by decide), rfl, (fun h => by cases h), fun s args h1 h2 => pm_T_of hl cl_all ar_all ik_X12_crowd ck_X12_crowd s args h2 (fun L xs h => by cases h)⟩
  · obtain ⟨rfl, rfl⟩ : C_X12_crowd = C ∧ 4 = nL := Prod.mk.injEq _ _ _ _ ▸ Option.some.inj h
    exact ⟨fun s args c h1 h2 h3 => hd_0_ok h3, fun h => (h rfl).elim⟩
theorem ok_236 (hl : l.stackTraces = false) : okMj l n0 sa sv 236 ∧ okHj n0 sa sv 236 := by
  refine ⟨fun C nL h => ?_, fun C nL h => ?_⟩
  · obtain ⟨rfl, rfl⟩ : C_X12_areAsNow = C ∧ 3 = nL := Prod.mk.injEq _ _ _ _ ▸ Option.some.inj h
    exact ⟨rfl, plain_ok (by decide), rfl, (fun h => by cases h), fun s args h1 h2 => pm_T_of hl cl_all ar_all ik_X12_areAsNow ck_X12_areAsNow s args h2 (fun L xs h => by cases h)⟩
  · obtain ⟨rfl, rfl⟩ : C_X12_areAsNow = C ∧ 3 = nL := Prod.mk.injEq _ _ _ _ ▸ Option.some.inj h
    exact ⟨fun s args c h1 h2 h3 => hd_0_ok h3, fun h => (h rfl).elim⟩
theorem ok_237 (hl : l.stackTraces = false) : okMj l n0 sa sv 237 ∧ okHj n0 sa sv 237 := by
  refine ⟨fun C nL h => ?_, fun C nL h => ?_⟩
  · obtain ⟨rfl, rfl⟩ : C_X12_round = C ∧ 2 = nL := Prod.mk.injEq _ _ _ _ ▸ Option.some.inj h
    exact ⟨rfl, plain_ok (by decide), rfl, (fun h => by cases h), fun s args h1 h2 => pm_T_of hl cl_all ar_all ik_X12_round ck_X12_round s args h2 (fun L xs h => by cases h)⟩
  · obtain ⟨rfl, rfl⟩ : C_X12_round = C ∧ 2 = nL := Prod.mk.injEq _ _ _ _ ▸ Option.some.inj h
    exact ⟨fun s args c h1 h2 h3 => hd_0_ok h3, fun h => (h rfl).elim⟩
theorem ok_238 (hl : l.stackTraces = false) : okMj l n0 sa sv 238 ∧ okHj n0 sa sv 238 := by
  refine ⟨fun C nL h => ?_, fun C nL h => ?_⟩
  · obtain ⟨rfl, rfl⟩ : C_X12_spread = C ∧ 5 = nL := Prod.mk.injEq _ _ _ _ ▸ Option.some.inj h
    exact ⟨rfl, plain_ok (by decide), rfl, (fun h => by cases h), fun s args h1 h2 => pm_T_of hl cl_all ar_all ik_X12_spread ck_X12_spread s args h2 (fun L xs h => by cases h)⟩
  · obtain ⟨rfl, rfl⟩ : C_X12_spread = C ∧ 5 = nL := Prod.mk.injEq _ _ _ _ ▸ Option.some.inj h
    exact ⟨fun s args c h1 h2 h3 => hd_0_ok h3, fun h => (h rfl).elim⟩
theorem ok_239 (hl : l.stackTraces = false) : okMj l n0 sa sv 239 ∧ okHj n0 sa sv 239 := by
  refine ⟨fun C nL h => ?_, fun C nL h => ?_⟩
  · obtain ⟨rfl, rfl⟩ : C_X12_later = C ∧ 7 = nL := Prod.mk.injEq _ _ _ _ ▸ Option.some.inj h
    exact ⟨rfl, plain_ok (by decide), rfl, (fun h => by cases h), fun s args h1 h2 => pm_T_of hl cl_all ar_all ik_X12_later ck_X12_later s args h2 (fun L xs h => by cases h)⟩
  · obtain ⟨rfl, rfl⟩ : C_X12_later = C ∧ 7 = nL := Prod.mk.injEq _ _ _ _ ▸ Option.some.inj h
    exact ⟨fun s args c h1 h2 h3 => hd_0_ok h3, fun h => (h rfl).elim⟩
theorem ok_240 (hl : l.stackTraces = false) : okMj l n0 sa sv 240 ∧ okHj n0 sa sv 240 := by
  refine ⟨fun C nL h => ?_, fun C nL h => ?_⟩
  · obtain ⟨rfl, rfl⟩ : C_X12_together = C ∧ 6 = nL := Prod.mk.injEq _ _ _ _ ▸ Option.some.inj h
    exact ⟨rfl, plain_ok (by decide), rfl, (fun h => by cases h), fun s args h1 h2 => pm_T_of hl cl_all ar_all ik_X12_together ck_X12_together s args h2 (fun L xs h => by cases h)⟩
  · obtain ⟨rfl, rfl⟩ : C_X12_together = C ∧ 6 = nL := Prod.mk.injEq _ _ _ _ ▸ Option.some.inj h
    exact ⟨fun s args c h1 h2 h3 => hd_0_ok h3, fun h => (h rfl).elim⟩
theorem ok_241 (hl : l.stackTraces = false) : okMj l n0 sa sv 241 ∧ okHj n0 sa sv 241 := by
  refine ⟨fun C nL h => ?_, fun C nL h => ?_⟩
  · obtain ⟨rfl, rfl⟩ : C_X12_quiet = C ∧ 5 = nL := Prod.mk.injEq _ _ _ _ ▸ Option.some.inj h
    exact ⟨rfl, plain_ok (by decide), rfl, (fun h => by cases h), fun s args h1 h2 => pm_T_of hl cl_all ar_all ik_X12_quiet ck_X12_quiet s args h2 (fun L xs h => by cases h)⟩
  · obtain ⟨rfl, rfl⟩ : C_X12_quiet = C ∧ 5 = nL := Prod.mk.injEq _ _ _ _ ▸ Option.some.inj h
    exact ⟨fun s args c h1 h2 h3 => hd_0_ok h3, fun h => (h rfl).elim⟩
theorem ok_242 (hl : l.stackTraces = false) : okMj l n0 sa sv 242 ∧ okHj n0 sa sv 242 := by
  refine ⟨fun C nL h => ?_, fun C nL h => ?_⟩
  · obtain ⟨rfl, rfl⟩ : C_X12_gone = C ∧ 6 = nL := Prod.mk.injEq _ _ _ _ ▸ Option.some.inj h
    exact ⟨rfl, plain_ok (by decide), rfl, (fun h => by cases h), fun s args h1 h2 => pm_T_of hl cl_all ar_all ik_X12_gone ck_X12_gone s args h2 (fun L xs h => by cases h)⟩
  · obtain ⟨rfl, rfl⟩ : C_X12_gone = C ∧ 6 = nL := Prod.mk.injEq _ _ _ _ ▸ Option.some.inj h
    exact ⟨fun s args c h1 h2 h3 => hd_0_ok h3, fun h => (h rfl).elim⟩
theorem ok_243 (hl : l.stackTraces = false) : okMj l n0 sa sv 243 ∧ okHj n0 sa sv 243 := by
  refine ⟨fun C nL h => ?_, fun C nL h => ?_⟩
  · obtain ⟨rfl, rfl⟩ : C_X12_way = C ∧ 7 = nL := Prod.mk.injEq _ _ _ _ ▸ Option.some.inj h
    exact ⟨rfl, plain_ok (by decide), rfl, (fun h => by cases h), fun s args h1 h2 => pm_T_of hl cl_all ar_all ik_X12_way ck_X12_way s args h2 (fun L xs h => by cases h)⟩
  · obtain ⟨rfl, rfl⟩ : C_X12_way = C ∧ 7 = nL := Prod.mk.injEq _ _ _ _ ▸ Option.some.inj h
    exact ⟨fun s args c h1 h2 h3 => hd_0_ok h3, fun h => (h rfl).elim⟩
theorem ok_244 (hl : l.stackTraces = false) : okMj l n0 sa sv 244 ∧ okHj n0 sa sv 244 := by
  refine ⟨fun C nL h => ?_, fun C nL h => ?_⟩
  · obtain ⟨rfl, rfl⟩ : C_X12_toStop = C ∧ 5 = nL := Prod.mk.injEq _ _ _ _ ▸ Option.some.inj h
    exact ⟨rfl, plain_ok (by decide), rfl, (fun h => by cases h), fun s args h1 h2 => pm_T_of hl cl_all ar_all ik_X12_toStop ck_X12_toStop s args h2 (fun L xs h => by cases h)⟩
  · obtain ⟨rfl, rfl⟩ : C_X12_toStop = C ∧ 5 = nL := Prod.mk.injEq _ _ _ _ ▸ Option.some.inj h
    exact ⟨fun s args c h1 h2 h3 => hd_0_ok h3, fun h => (h rfl).elim⟩
theorem ok_245 (hl : l.stackTraces = false) : okMj l n0 sa sv 245 ∧ okHj n0 sa sv 245 := by
  refine ⟨fun C nL h => ?_, fun C nL h => ?_⟩
  · obtain ⟨rfl, rfl⟩ : C_X12_toThin = C ∧ 6 = nL := Prod.mk.injEq _ _ _ _ ▸ Option.some.inj h
    exact ⟨rfl, plain_ok (by decide), rfl, (fun h => by cases h), fun s args h1 h2 => pm_T_of hl cl_all ar_all ik_X12_toThin ck_X12_toThin s args h2 (fun L xs h => by cases h)⟩
  · obtain ⟨rfl, rfl⟩ : C_X12_toThin = C ∧ 6 = nL := Prod.mk.injEq _ _ _ _ ▸ Option.some.inj h
    exact ⟨fun s args c h1 h2 h3 => hd_0_ok h3, fun h => (h rfl).elim⟩
theorem ok_246 (hl : l.stackTraces = false) : okMj l n0 sa sv 246 ∧ okHj n0 sa sv 246 := by
  refine ⟨fun C nL h => ?_, fun C nL h => ?_⟩
  · obtain ⟨rfl, rfl⟩ : C_X12_sits = C ∧ 4 = nL := Prod.mk.injEq _ _ _ _ ▸ Option.some.inj h
    exact ⟨rfl, plain_ok (by decide), rfl, (fun h => by cases h), fun s args h1 h2 => pm_T_of hl cl_all ar_all ik_X12_sits ck_X12_sits s args h2 (fun L xs h => by cases h)⟩
  · obtain ⟨rfl, rfl⟩ : C_X12_sits = C ∧ 4 = nL := Prod.mk.injEq _ _ _ _ ▸ Option.some.inj h
    exact ⟨fun s args c h1 h2 h3 => hd_0_ok h3, fun h => (h rfl).elim⟩
theorem ok_247 (hl : l.stackTraces = false) : okMj l n0 sa sv 247 ∧ okHj n0 sa sv 247 := by
  refine ⟨fun C nL h => ?_, fun C nL h => ?_⟩
  · obtain ⟨rfl, rfl⟩ : C_X12_canSit = C ∧ 4 = nL := Prod.mk.injEq _ _ _ _ ▸ Option.some.inj h
    exact ⟨rfl, plain_ok (by decide), rfl, (fun h => by cases h), fun s args h1 h2 => pm_T_of hl cl_all ar_all ik_X12_canSit ck_X12_canSit s args h2 (fun L xs h => by cases h)⟩
  · obtain ⟨rfl, rfl⟩ : C_X12_canSit = C ∧ 4 = nL := Prod.mk.injEq _ _ _ _ ▸ Option.some.inj h
    exact ⟨fun s args c h1 h2 h3 => hd_0_ok h3, fun h => (h rfl).elim⟩
theorem ok_248 (hl : l.stackTraces = false) : okMj l n0 sa sv 248 ∧ okHj n0 sa sv 248 := by
  refine ⟨fun C nL h => ?_, fun C nL h => ?_⟩
  · obtain ⟨rfl, rfl⟩ : C_X12_laysSeats = C ∧ 5 = nL := Prod.mk.injEq _ _ _ _ ▸ Option.some.inj h
    exact ⟨rfl, plain_ok (by decide), rfl, (fun h => by cases h), fun s args h1 h2 => pm_T_of hl cl_all ar_all ik_X12_laysSeats ck_X12_laysSeats s args h2 (fun L xs h => by cases h)⟩
  · obtain ⟨rfl, rfl⟩ : C_X12_laysSeats = C ∧ 5 = nL := Prod.mk.injEq _ _ _ _ ▸ Option.some.inj h
    exact ⟨fun s args c h1 h2 h3 => hd_0_ok h3, fun h => (h rfl).elim⟩
theorem ok_249 (hl : l.stackTraces = false) : okMj l n0 sa sv 249 ∧ okHj n0 sa sv 249 := by
  refine ⟨fun C nL h => ?_, fun C nL h => ?_⟩
  · obtain ⟨rfl, rfl⟩ : C_X12_seats = C ∧ 2 = nL := Prod.mk.injEq _ _ _ _ ▸ Option.some.inj h
    exact ⟨rfl, plain_ok (by decide), rfl, (fun h => by cases h), fun s args h1 h2 => pm_T_of hl cl_all ar_all ik_X12_seats ck_X12_seats s args h2 (fun L xs h => by cases h)⟩
  · obtain ⟨rfl, rfl⟩ : C_X12_seats = C ∧ 2 = nL := Prod.mk.injEq _ _ _ _ ▸ Option.some.inj h
    exact ⟨fun s args c h1 h2 h3 => hd_0_ok h3, fun h => (h rfl).elim⟩
theorem ok_250 (hl : l.stackTraces = false) : okMj l n0 sa sv 250 ∧ okHj n0 sa sv 250 := by
  refine ⟨fun C nL h => ?_, fun C nL h => ?_⟩
  · obtain ⟨rfl, rfl⟩ : C_X12_seat = C ∧ 6 = nL := Prod.mk.injEq _ _ _ _ ▸ Option.some.inj h
    exact ⟨rfl, plain_ok (by decide), rfl, (fun h => by cases h), fun s args h1 h2 => pm_T_of hl cl_all ar_all ik_X12_seat ck_X12_seat s args h2 (fun L xs h => by cases h)⟩
  · obtain ⟨rfl, rfl⟩ : C_X12_seat = C ∧ 6 = nL := Prod.mk.injEq _ _ _ _ ▸ Option.some.inj h
    exact ⟨fun s args c h1 h2 h3 => hd_0_ok h3, fun h => (h rfl).elim⟩
theorem ok_251 (hl : l.stackTraces = false) : okMj l n0 sa sv 251 ∧ okHj n0 sa sv 251 := by
  refine ⟨fun C nL h => ?_, fun C nL h => ?_⟩
  · obtain ⟨rfl, rfl⟩ : C_X12_note = C ∧ 4 = nL := Prod.mk.injEq _ _ _ _ ▸ Option.some.inj h
    exact ⟨rfl, plain_ok (by decide), rfl, (fun h => by cases h), fun s args h1 h2 => pm_T_of hl cl_all ar_all ik_X12_note ck_X12_note s args h2 (fun L xs h => by cases h)⟩
  · obtain ⟨rfl, rfl⟩ : C_X12_note = C ∧ 4 = nL := Prod.mk.injEq _ _ _ _ ▸ Option.some.inj h
    exact ⟨fun s args c h1 h2 h3 => hd_0_ok h3, fun h => (h rfl).elim⟩
theorem ok_252 (hl : l.stackTraces = false) : okMj l n0 sa sv 252 ∧ okHj n0 sa sv 252 := by
  refine ⟨fun C nL h => ?_, fun C nL h => ?_⟩
  · obtain ⟨rfl, rfl⟩ : C_X12_forget = C ∧ 1 = nL := Prod.mk.injEq _ _ _ _ ▸ Option.some.inj h
    exact ⟨rfl, plain_ok (by decide), rfl, (fun h => by cases h), fun s args h1 h2 => pm_T_of hl cl_all ar_all ik_X12_forget ck_X12_forget s args h2 (fun L xs h => by cases h)⟩
  · obtain ⟨rfl, rfl⟩ : C_X12_forget = C ∧ 1 = nL := Prod.mk.injEq _ _ _ _ ▸ Option.some.inj h
    exact ⟨fun s args c h1 h2 h3 => hd_0_ok h3, fun h => (h rfl).elim⟩
theorem ok_253 (hl : l.stackTraces = false) : okMj l n0 sa sv 253 ∧ okHj n0 sa sv 253 := by
  refine ⟨fun C nL h => ?_, fun C nL h => ?_⟩
  · obtain ⟨rfl, rfl⟩ : C_X12_isNoted = C ∧ 3 = nL := Prod.mk.injEq _ _ _ _ ▸ Option.some.inj h
    exact ⟨rfl, plain_ok (by decide), rfl, (fun h => by cases h), fun s args h1 h2 => pm_T_of hl cl_all ar_all ik_X12_isNoted ck_X12_isNoted s args h2 (fun L xs h => by cases h)⟩
  · obtain ⟨rfl, rfl⟩ : C_X12_isNoted = C ∧ 3 = nL := Prod.mk.injEq _ _ _ _ ▸ Option.some.inj h
    exact ⟨fun s args c h1 h2 h3 => hd_0_ok h3, fun h => (h rfl).elim⟩
theorem ok_254 (hl : l.stackTraces = false) : okMj l n0 sa sv 254 ∧ okHj n0 sa sv 254 := by
  refine ⟨fun C nL h => ?_, fun C nL h => ?_⟩
  · obtain ⟨rfl, rfl⟩ : C_X12_isGuess = C ∧ 3 = nL := Prod.mk.injEq _ _ _ _ ▸ Option.some.inj h
    exact ⟨rfl, plain_ok (by decide), rfl, (fun h => by cases h), fun s args h1 h2 => pm_T_of hl cl_all ar_all ik_X12_isGuess ck_X12_isGuess s args h2 (fun L xs h => by cases h)⟩
  · obtain ⟨rfl, rfl⟩ : C_X12_isGuess = C ∧ 3 = nL := Prod.mk.injEq _ _ _ _ ▸ Option.some.inj h
    exact ⟨fun s args c h1 h2 h3 => hd_0_ok h3, fun h => (h rfl).elim⟩
theorem ok_255 (hl : l.stackTraces = false) : okMj l n0 sa sv 255 ∧ okHj n0 sa sv 255 := by
  refine ⟨fun C nL h => ?_, fun C nL h => ?_⟩
  · obtain ⟨rfl, rfl⟩ : C_X12_ahead = C ∧ 5 = nL := Prod.mk.injEq _ _ _ _ ▸ Option.some.inj h
    exact ⟨rfl, plain_ok (by decide), rfl, (fun h => by cases h), fun s args h1 h2 => pm_T_of hl cl_all ar_all ik_X12_ahead ck_X12_ahead s args h2 (fun L xs h => by cases h)⟩
  · obtain ⟨rfl, rfl⟩ : C_X12_ahead = C ∧ 5 = nL := Prod.mk.injEq _ _ _ _ ▸ Option.some.inj h
    exact ⟨fun s args c h1 h2 h3 => hd_0_ok h3, fun h => (h rfl).elim⟩
theorem ok_256 (hl : l.stackTraces = false) : okMj l n0 sa sv 256 ∧ okHj n0 sa sv 256 := by
  refine ⟨fun C nL h => ?_, fun C nL h => ?_⟩
  · obtain ⟨rfl, rfl⟩ : C_X12_look = C ∧ 10 = nL := Prod.mk.injEq _ _ _ _ ▸ Option.some.inj h
    exact ⟨rfl, plain_ok (by decide), rfl, (fun h => by cases h), fun s args h1 h2 => pm_T_of hl cl_all ar_all ik_X12_look ck_X12_look s args h2 (fun L xs h => by cases h)⟩
  · obtain ⟨rfl, rfl⟩ : C_X12_look = C ∧ 10 = nL := Prod.mk.injEq _ _ _ _ ▸ Option.some.inj h
    exact ⟨fun s args c h1 h2 h3 => hd_0_ok h3, fun h => (h rfl).elim⟩
theorem ok_257 (hl : l.stackTraces = false) : okMj l n0 sa sv 257 ∧ okHj n0 sa sv 257 := by
  refine ⟨fun C nL h => ?_, fun C nL h => ?_⟩
  · obtain ⟨rfl, rfl⟩ : C_X12_clouds = C ∧ 9 = nL := Prod.mk.injEq _ _ _ _ ▸ Option.some.inj h
    exact ⟨rfl, plain_ok (by decide), rfl, (fun h => by cases h), fun s args h1 h2 => pm_T_of hl cl_all ar_all ik_X12_clouds ck_X12_clouds s args h2 (fun L xs h => by cases h)⟩
  · obtain ⟨rfl, rfl⟩ : C_X12_clouds = C ∧ 9 = nL := Prod.mk.injEq _ _ _ _ ▸ Option.some.inj h
    exact ⟨fun s args c h1 h2 h3 => hd_0_ok h3, fun h => (h rfl).elim⟩
theorem ok_258 (hl : l.stackTraces = false) : okMj l n0 sa sv 258 ∧ okHj n0 sa sv 258 := by
  refine ⟨fun C nL h => ?_, fun C nL h => ?_⟩
  · obtain ⟨rfl, rfl⟩ : C_X12_gains = C ∧ 7 = nL := Prod.mk.injEq _ _ _ _ ▸ Option.some.inj h
    exact ⟨rfl, plain_ok (by decide), rfl, (fun h => by cases h), fun s args h1 h2 => pm_T_of hl cl_all ar_all ik_X12_gains ck_X12_gains s args h2 (fun L xs h => by cases h)⟩
  · obtain ⟨rfl, rfl⟩ : C_X12_gains = C ∧ 7 = nL := Prod.mk.injEq _ _ _ _ ▸ Option.some.inj h
    exact ⟨fun s args c h1 h2 h3 => hd_0_ok h3, fun h => (h rfl).elim⟩
theorem ok_259 (hl : l.stackTraces = false) : okMj l n0 sa sv 259 ∧ okHj n0 sa sv 259 := by
  refine ⟨fun C nL h => ?_, fun C nL h => ?_⟩
  · obtain ⟨rfl, rfl⟩ : C_X12_game = C ∧ 9 = nL := Prod.mk.injEq _ _ _ _ ▸ Option.some.inj h
    exact ⟨rfl, plain_ok (by decide), rfl, (fun h => by cases h), fun s args h1 h2 => pm_T_of hl cl_all ar_all ik_X12_game ck_X12_game s args h2 (fun L xs h => by cases h)⟩
  · obtain ⟨rfl, rfl⟩ : C_X12_game = C ∧ 9 = nL := Prod.mk.injEq _ _ _ _ ▸ Option.some.inj h
    exact ⟨fun s args c h1 h2 h3 => hd_0_ok h3, fun h => (h rfl).elim⟩
theorem ok_260 (hl : l.stackTraces = false) : okMj l n0 sa sv 260 ∧ okHj n0 sa sv 260 := by
  refine ⟨fun C nL h => ?_, fun C nL h => ?_⟩
  · obtain ⟨rfl, rfl⟩ : C_X12_draw = C ∧ 2 = nL := Prod.mk.injEq _ _ _ _ ▸ Option.some.inj h
    exact ⟨rfl, plain_ok (by decide), rfl, (fun h => by cases h), fun s args h1 h2 => pm_T_of hl cl_all ar_all ik_X12_draw ck_X12_draw s args h2 (fun L xs h => by cases h)⟩
  · obtain ⟨rfl, rfl⟩ : C_X12_draw = C ∧ 2 = nL := Prod.mk.injEq _ _ _ _ ▸ Option.some.inj h
    exact ⟨fun s args c h1 h2 h3 => hd_0_ok h3, fun h => (h rfl).elim⟩
theorem ok_261 (hl : l.stackTraces = false) : okMj l n0 sa sv 261 ∧ okHj n0 sa sv 261 := by
  refine ⟨fun C nL h => ?_, fun C nL h => ?_⟩
  · obtain ⟨rfl, rfl⟩ : C_X12_happens = C ∧ 4 = nL := Prod.mk.injEq _ _ _ _ ▸ Option.some.inj h
    exact ⟨rfl, plain_ok (by decide), rfl, (fun h => by cases h), fun s args h1 h2 => pm_T_of hl cl_all ar_all ik_X12_happens ck_X12_happens s args h2 (fun L xs h => by cases h)⟩
  · obtain ⟨rfl, rfl⟩ : C_X12_happens = C ∧ 4 = nL := Prod.mk.injEq _ _ _ _ ▸ Option.some.inj h
    exact ⟨fun s args c h1 h2 h3 => hd_0_ok h3, fun h => (h rfl).elim⟩
theorem ok_262 (hl : l.stackTraces = false) : okMj l n0 sa sv 262 ∧ okHj n0 sa sv 262 := by
  refine ⟨fun C nL h => ?_, fun C nL h => ?_⟩
  · obtain ⟨rfl, rfl⟩ : C_X12_years = C ∧ 8 = nL := Prod.mk.injEq _ _ _ _ ▸ Option.some.inj h
    exact ⟨rfl, plain_ok (by decide), rfl, (fun h => by cases h), fun s args h1 h2 => pm_T_of hl cl_all ar_all ik_X12_years ck_X12_years s args h2 (fun L xs h => by cases h)⟩
  · obtain ⟨rfl, rfl⟩ : C_X12_years = C ∧ 8 = nL := Prod.mk.injEq _ _ _ _ ▸ Option.some.inj h
    exact ⟨fun s args c h1 h2 h3 => hd_0_ok h3, fun h => (h rfl).elim⟩
theorem ok_263 (hl : l.stackTraces = false) : okMj l n0 sa sv 263 ∧ okHj n0 sa sv 263 := by
  refine ⟨fun C nL h => ?_, fun C nL h => ?_⟩
  · obtain ⟨rfl, rfl⟩ : C_X12_image = C ∧ 2 = nL := Prod.mk.injEq _ _ _ _ ▸ Option.some.inj h
    exact ⟨rfl, plain_ok (by decide), rfl, (fun h => by cases h), fun s args h1 h2 => pm_T_of hl cl_all ar_all ik_X12_image ck_X12_image s args h2 (fun L xs h => by cases h)⟩
  · obtain ⟨rfl, rfl⟩ : C_X12_image = C ∧ 2 = nL := Prod.mk.injEq _ _ _ _ ▸ Option.some.inj h
    exact ⟨fun s args c h1 h2 h3 => hd_0_ok h3, fun h => (h rfl).elim⟩
theorem ok_264 (hl : l.stackTraces = false) : okMj l n0 sa sv 264 ∧ okHj n0 sa sv 264 := by
  refine ⟨fun C nL h => ?_, fun C nL h => ?_⟩
  · obtain ⟨rfl, rfl⟩ : C_X12_restore = C ∧ 2 = nL := Prod.mk.injEq _ _ _ _ ▸ Option.some.inj h
    exact ⟨rfl, plain_ok (by decide), rfl, (fun h => by cases h), fun s args h1 h2 => pm_T_of hl cl_all ar_all ik_X12_restore ck_X12_restore s args h2 (fun L xs h => by cases h)⟩
  · obtain ⟨rfl, rfl⟩ : C_X12_restore = C ∧ 2 = nL := Prod.mk.injEq _ _ _ _ ▸ Option.some.inj h
    exact ⟨fun s args c h1 h2 h3 => hd_0_ok h3, fun h => (h rfl).elim⟩
theorem ok_265 (hl : l.stackTraces = false) : okMj l n0 sa sv 265 ∧ okHj n0 sa sv 265 := by
  refine ⟨fun C nL h => ?_, fun C nL h => ?_⟩
  · obtain ⟨rfl, rfl⟩ : C_J6_bitCount_0f7a4 = C ∧ 1 = nL := Prod.mk.injEq _ _ _ _ ▸ Option.some.inj h
    exact ⟨rfl, plain_ok (by decide), rfl, (fun h => by cases h), fun s args h1 h2 => pm_T_of hl cl_all ar_all ik_J6_bitCount_0f7a4 ck_J6_bitCount_0f7a4 s args h2 (fun L xs h => by cases h)⟩
  · obtain ⟨rfl, rfl⟩ : C_J6_bitCount_0f7a4 = C ∧ 1 = nL := Prod.mk.injEq _ _ _ _ ▸ Option.some.inj h
    exact ⟨fun s args c h1 h2 h3 => hd_0_ok h3, fun h => (h rfl).elim⟩
theorem ok_266 (hl : l.stackTraces = false) : okMj l n0 sa sv 266 ∧ okHj n0 sa sv 266 := by
  refine ⟨fun C nL h => ?_, fun C nL h => ?_⟩
  · obtain ⟨rfl, rfl⟩ : C_J13_bitCount_95d88 = C ∧ 2 = nL := Prod.mk.injEq _ _ _ _ ▸ Option.some.inj h
    exact ⟨rfl, plain_ok (by decide), rfl, (fun h => by cases h), fun s args h1 h2 => pm_T_of hl cl_all ar_all ik_J13_bitCount_95d88 ck_J13_bitCount_95d88 s args h2 (fun L xs h => by cases h)⟩
  · obtain ⟨rfl, rfl⟩ : C_J13_bitCount_95d88 = C ∧ 2 = nL := Prod.mk.injEq _ _ _ _ ▸ Option.some.inj h
    exact ⟨fun s args c h1 h2 h3 => hd_0_ok h3, fun h => (h rfl).elim⟩
theorem ok_267 (hl : l.stackTraces = false) : okMj l n0 sa sv 267 ∧ okHj n0 sa sv 267 := by
  refine ⟨fun C nL h => ?_, fun C nL h => ?_⟩
  · obtain ⟨rfl, rfl⟩ : C_J7_fill_d0a16 = C ∧ 5 = nL := Prod.mk.injEq _ _ _ _ ▸ Option.some.inj h
    exact ⟨rfl, plain_ok (by decide), rfl, (fun h => by cases h), fun s args h1 h2 => pm_T_of hl cl_all ar_all ik_J7_fill_d0a16 ck_J7_fill_d0a16 s args h2 (fun L xs h => by cases h)⟩
  · obtain ⟨rfl, rfl⟩ : C_J7_fill_d0a16 = C ∧ 5 = nL := Prod.mk.injEq _ _ _ _ ▸ Option.some.inj h
    exact ⟨fun s args c h1 h2 h3 => hd_0_ok h3, fun h => (h rfl).elim⟩
theorem ok_268 (hl : l.stackTraces = false) : okMj l n0 sa sv 268 ∧ okHj n0 sa sv 268 := by
  refine ⟨fun C nL h => ?_, fun C nL h => ?_⟩
  · obtain ⟨rfl, rfl⟩ : C_J7_fill_53178 = C ∧ 4 = nL := Prod.mk.injEq _ _ _ _ ▸ Option.some.inj h
    exact ⟨rfl, plain_ok (by decide), rfl, (fun h => by cases h), fun s args h1 h2 => pm_T_of hl cl_all ar_all ik_J7_fill_53178 ck_J7_fill_53178 s args h2 (fun L xs h => by cases h)⟩
  · obtain ⟨rfl, rfl⟩ : C_J7_fill_53178 = C ∧ 4 = nL := Prod.mk.injEq _ _ _ _ ▸ Option.some.inj h
    exact ⟨fun s args c h1 h2 h3 => hd_0_ok h3, fun h => (h rfl).elim⟩
theorem ok_269 (_ : l.stackTraces = false) : okMj l n0 sa sv 269 ∧ okHj n0 sa sv 269 := ⟨(fun C nL h => by cases h), (fun C nL h => by cases h)⟩
theorem ok_270 (_ : l.stackTraces = false) : okMj l n0 sa sv 270 ∧ okHj n0 sa sv 270 := ⟨(fun C nL h => by cases h), (fun C nL h => by cases h)⟩
theorem ok_271 (_ : l.stackTraces = false) : okMj l n0 sa sv 271 ∧ okHj n0 sa sv 271 := ⟨(fun C nL h => by cases h), (fun C nL h => by cases h)⟩
theorem ok_272 (hl : l.stackTraces = false) : okMj l n0 sa sv 272 ∧ okHj n0 sa sv 272 := by
  refine ⟨fun C nL h => ?_, fun C nL h => ?_⟩
  · obtain ⟨rfl, rfl⟩ : C_L_town = C ∧ 4 = nL := Prod.mk.injEq _ _ _ _ ▸ Option.some.inj h
    exact ⟨rfl, plain_ok (by decide), rfl, (fun h => by cases h), fun s args h1 h2 => pm_T_of hl cl_all ar_all ik_L_town ck_L_town s args h2 (fun L xs h => by cases h)⟩
  · obtain ⟨rfl, rfl⟩ : C_L_town = C ∧ 4 = nL := Prod.mk.injEq _ _ _ _ ▸ Option.some.inj h
    exact ⟨fun s args c h1 h2 h3 => hd_1_ok h2 (k := 3) (len := 1) h3 (by decide +kernel) (Or.inr ⟨rfl, rfl⟩), fun _ _ => rfl⟩
theorem ok_273 (hl : l.stackTraces = false) : okMj l n0 sa sv 273 ∧ okHj n0 sa sv 273 := by
  refine ⟨fun C nL h => ?_, fun C nL h => ?_⟩
  · obtain ⟨rfl, rfl⟩ : C_L_count = C ∧ 4 = nL := Prod.mk.injEq _ _ _ _ ▸ Option.some.inj h
    exact ⟨rfl, plain_ok (by decide), rfl, (fun h => by cases h), fun s args h1 h2 => pm_T_of hl cl_all ar_all ik_L_count ck_L_count s args h2 (fun L xs h => by cases h)⟩
  · obtain ⟨rfl, rfl⟩ : C_L_count = C ∧ 4 = nL := Prod.mk.injEq _ _ _ _ ▸ Option.some.inj h
    exact ⟨fun s args c h1 h2 h3 => hd_1_ok h2 (k := 3) (len := 1) h3 (by decide +kernel) (Or.inl ⟨rfl, rfl⟩), fun _ _ => rfl⟩
theorem ok_274 (hl : l.stackTraces = false) : okMj l n0 sa sv 274 ∧ okHj n0 sa sv 274 := by
  refine ⟨fun C nL h => ?_, fun C nL h => ?_⟩
  · obtain ⟨rfl, rfl⟩ : C_L_figure = C ∧ 5 = nL := Prod.mk.injEq _ _ _ _ ▸ Option.some.inj h
    exact ⟨rfl, plain_ok (by decide), rfl, (fun h => by cases h), fun s args h1 h2 => pm_T_of hl cl_all ar_all ik_L_figure ck_L_figure s args h2 (fun L xs h => by cases h)⟩
  · obtain ⟨rfl, rfl⟩ : C_L_figure = C ∧ 5 = nL := Prod.mk.injEq _ _ _ _ ▸ Option.some.inj h
    exact ⟨fun s args c h1 h2 h3 => hd_1_ok h2 (k := 4) (len := 2) h3 (by decide +kernel) (Or.inl ⟨rfl, rfl⟩), fun _ _ => rfl⟩
theorem ok_275 (hl : l.stackTraces = false) : okMj l n0 sa sv 275 ∧ okHj n0 sa sv 275 := by
  refine ⟨fun C nL h => ?_, fun C nL h => ?_⟩
  · obtain ⟨rfl, rfl⟩ : C_L_cell = C ∧ 5 = nL := Prod.mk.injEq _ _ _ _ ▸ Option.some.inj h
    exact ⟨rfl, plain_ok (by decide), rfl, (fun h => by cases h), fun s args h1 h2 => pm_T_of hl cl_all ar_all ik_L_cell ck_L_cell s args h2 (fun L xs h => by cases h)⟩
  · obtain ⟨rfl, rfl⟩ : C_L_cell = C ∧ 5 = nL := Prod.mk.injEq _ _ _ _ ▸ Option.some.inj h
    exact ⟨fun s args c h1 h2 h3 => hd_1_ok h2 (k := 4) (len := 2) h3 (by decide +kernel) (Or.inl ⟨rfl, rfl⟩), fun _ _ => rfl⟩
theorem ok_276 (hl : l.stackTraces = false) : okMj l n0 sa sv 276 ∧ okHj n0 sa sv 276 := by
  refine ⟨fun C nL h => ?_, fun C nL h => ?_⟩
  · obtain ⟨rfl, rfl⟩ : C_L_stop = C ∧ 5 = nL := Prod.mk.injEq _ _ _ _ ▸ Option.some.inj h
    exact ⟨rfl, plain_ok (by decide), rfl, (fun h => by cases h), fun s args h1 h2 => pm_T_of hl cl_all ar_all ik_L_stop ck_L_stop s args h2 (fun L xs h => by cases h)⟩
  · obtain ⟨rfl, rfl⟩ : C_L_stop = C ∧ 5 = nL := Prod.mk.injEq _ _ _ _ ▸ Option.some.inj h
    exact ⟨fun s args c h1 h2 h3 => hd_1_ok h2 (k := 4) (len := 2) h3 (by decide +kernel) (Or.inl ⟨rfl, rfl⟩), fun _ _ => rfl⟩
theorem ok_277 (hl : l.stackTraces = false) : okMj l n0 sa sv 277 ∧ okHj n0 sa sv 277 := by
  refine ⟨fun C nL h => ?_, fun C nL h => ?_⟩
  · obtain ⟨rfl, rfl⟩ : C_L_lift = C ∧ 5 = nL := Prod.mk.injEq _ _ _ _ ▸ Option.some.inj h
    exact ⟨rfl, plain_ok (by decide), rfl, (fun h => by cases h), fun s args h1 h2 => pm_T_of hl cl_all ar_all ik_L_lift ck_L_lift s args h2 (fun L xs h => by cases h)⟩
  · obtain ⟨rfl, rfl⟩ : C_L_lift = C ∧ 5 = nL := Prod.mk.injEq _ _ _ _ ▸ Option.some.inj h
    exact ⟨fun s args c h1 h2 h3 => hd_1_ok h2 (k := 4) (len := 2) h3 (by decide +kernel) (Or.inl ⟨rfl, rfl⟩), fun _ _ => rfl⟩
theorem ok_278 (hl : l.stackTraces = false) : okMj l n0 sa sv 278 ∧ okHj n0 sa sv 278 := by
  refine ⟨fun C nL h => ?_, fun C nL h => ?_⟩
  · obtain ⟨rfl, rfl⟩ : C_L_brush = C ∧ 4 = nL := Prod.mk.injEq _ _ _ _ ▸ Option.some.inj h
    exact ⟨rfl, plain_ok (by decide), rfl, (fun h => by cases h), fun s args h1 h2 => pm_T_of hl cl_all ar_all ik_L_brush ck_L_brush s args h2 (fun L xs h => by cases h)⟩
  · obtain ⟨rfl, rfl⟩ : C_L_brush = C ∧ 4 = nL := Prod.mk.injEq _ _ _ _ ▸ Option.some.inj h
    exact ⟨fun s args c h1 h2 h3 => hd_1_ok h2 (k := 3) (len := 1) h3 (by decide +kernel) (Or.inl ⟨rfl, rfl⟩), fun _ _ => rfl⟩
theorem ok_279 (hl : l.stackTraces = false) : okMj l n0 sa sv 279 ∧ okHj n0 sa sv 279 := by
  refine ⟨fun C nL h => ?_, fun C nL h => ?_⟩
  · obtain ⟨rfl, rfl⟩ : C_L_wall = C ∧ 5 = nL := Prod.mk.injEq _ _ _ _ ▸ Option.some.inj h
    exact ⟨rfl, plain_ok (by decide), rfl, (fun h => by cases h), fun s args h1 h2 => pm_T_of hl cl_all ar_all ik_L_wall ck_L_wall s args h2 (fun L xs h => by cases h)⟩
  · obtain ⟨rfl, rfl⟩ : C_L_wall = C ∧ 5 = nL := Prod.mk.injEq _ _ _ _ ▸ Option.some.inj h
    exact ⟨fun s args c h1 h2 h3 => hd_1_ok h2 (k := 4) (len := 2) h3 (by decide +kernel) (Or.inl ⟨rfl, rfl⟩), fun _ _ => rfl⟩
theorem ok_280 (hl : l.stackTraces = false) : okMj l n0 sa sv 280 ∧ okHj n0 sa sv 280 := by
  refine ⟨fun C nL h => ?_, fun C nL h => ?_⟩
  · obtain ⟨rfl, rfl⟩ : C_L_then = C ∧ 6 = nL := Prod.mk.injEq _ _ _ _ ▸ Option.some.inj h
    exact ⟨rfl, plain_ok (by decide), rfl, (fun h => by cases h), fun s args h1 h2 => pm_T_of hl cl_all ar_all ik_L_then ck_L_then s args h2 (fun L xs h => by cases h)⟩
  · obtain ⟨rfl, rfl⟩ : C_L_then = C ∧ 6 = nL := Prod.mk.injEq _ _ _ _ ▸ Option.some.inj h
    exact ⟨fun s args c h1 h2 h3 => hd_2_ok h2 (k := 5) (len := 2) (k' := 5) (len' := 2) h3 (by decide +kernel) (by decide +kernel), fun _ _ => rfl⟩
theorem ok_281 (hl : l.stackTraces = false) : okMj l n0 sa sv 281 ∧ okHj n0 sa sv 281 := by
  refine ⟨fun C nL h => ?_, fun C nL h => ?_⟩
  · obtain ⟨rfl, rfl⟩ : C_L_comes = C ∧ 5 = nL := Prod.mk.injEq _ _ _ _ ▸ Option.some.inj h
    exact ⟨rfl, plain_ok (by decide), rfl, (fun h => by cases h), fun s args h1 h2 => pm_T_of hl cl_all ar_all ik_L_comes ck_L_comes s args h2 (fun L xs h => by cases h)⟩
  · obtain ⟨rfl, rfl⟩ : C_L_comes = C ∧ 5 = nL := Prod.mk.injEq _ _ _ _ ▸ Option.some.inj h
    exact ⟨fun s args c h1 h2 h3 => hd_1_ok h2 (k := 4) (len := 2) h3 (by decide +kernel) (Or.inl ⟨rfl, rfl⟩), fun _ _ => rfl⟩
theorem ok_282 (hl : l.stackTraces = false) : okMj l n0 sa sv 282 ∧ okHj n0 sa sv 282 := by
  refine ⟨fun C nL h => ?_, fun C nL h => ?_⟩
  · obtain ⟨rfl, rfl⟩ : C_L_meet = C ∧ 5 = nL := Prod.mk.injEq _ _ _ _ ▸ Option.some.inj h
    exact ⟨rfl, plain_ok (by decide), rfl, (fun h => by cases h), fun s args h1 h2 => pm_T_of hl cl_all ar_all ik_L_meet ck_L_meet s args h2 (fun L xs h => by cases h)⟩
  · obtain ⟨rfl, rfl⟩ : C_L_meet = C ∧ 5 = nL := Prod.mk.injEq _ _ _ _ ▸ Option.some.inj h
    exact ⟨fun s args c h1 h2 h3 => hd_1_ok h2 (k := 4) (len := 2) h3 (by decide +kernel) (Or.inl ⟨rfl, rfl⟩), fun _ _ => rfl⟩
theorem ok_283 (hl : l.stackTraces = false) : okMj l n0 sa sv 283 ∧ okHj n0 sa sv 283 := by
  refine ⟨fun C nL h => ?_, fun C nL h => ?_⟩
  · obtain ⟨rfl, rfl⟩ : C_L_crowd = C ∧ 5 = nL := Prod.mk.injEq _ _ _ _ ▸ Option.some.inj h
    exact ⟨rfl, plain_ok (by decide), rfl, (fun h => by cases h), fun s args h1 h2 => pm_T_of hl cl_all ar_all ik_L_crowd ck_L_crowd s args h2 (fun L xs h => by cases h)⟩
  · obtain ⟨rfl, rfl⟩ : C_L_crowd = C ∧ 5 = nL := Prod.mk.injEq _ _ _ _ ▸ Option.some.inj h
    exact ⟨fun s args c h1 h2 h3 => hd_2_ok h2 (k := 4) (len := 2) (k' := 4) (len' := 2) h3 (by decide +kernel) (by decide +kernel), fun _ _ => rfl⟩
theorem ok_284 (hl : l.stackTraces = false) : okMj l n0 sa sv 284 ∧ okHj n0 sa sv 284 := by
  refine ⟨fun C nL h => ?_, fun C nL h => ?_⟩
  · obtain ⟨rfl, rfl⟩ : C_L_spread = C ∧ 5 = nL := Prod.mk.injEq _ _ _ _ ▸ Option.some.inj h
    exact ⟨rfl, plain_ok (by decide), rfl, (fun h => by cases h), fun s args h1 h2 => pm_T_of hl cl_all ar_all ik_L_spread ck_L_spread s args h2 (fun L xs h => by cases h)⟩
  · obtain ⟨rfl, rfl⟩ : C_L_spread = C ∧ 5 = nL := Prod.mk.injEq _ _ _ _ ▸ Option.some.inj h
    exact ⟨fun s args c h1 h2 h3 => hd_2_ok h2 (k := 4) (len := 2) (k' := 4) (len' := 2) h3 (by decide +kernel) (by decide +kernel), fun _ _ => rfl⟩
theorem ok_285 (hl : l.stackTraces = false) : okMj l n0 sa sv 285 ∧ okHj n0 sa sv 285 := by
  refine ⟨fun C nL h => ?_, fun C nL h => ?_⟩
  · obtain ⟨rfl, rfl⟩ : C_L_way = C ∧ 6 = nL := Prod.mk.injEq _ _ _ _ ▸ Option.some.inj h
    exact ⟨rfl, plain_ok (by decide), rfl, (fun h => by cases h), fun s args h1 h2 => pm_T_of hl cl_all ar_all ik_L_way ck_L_way s args h2 (fun L xs h => by cases h)⟩
  · obtain ⟨rfl, rfl⟩ : C_L_way = C ∧ 6 = nL := Prod.mk.injEq _ _ _ _ ▸ Option.some.inj h
    exact ⟨fun s args c h1 h2 h3 => hd_1_ok h2 (k := 5) (len := 2) h3 (by decide +kernel) (Or.inl ⟨rfl, rfl⟩), fun _ _ => rfl⟩
theorem ok_286 (hl : l.stackTraces = false) : okMj l n0 sa sv 286 ∧ okHj n0 sa sv 286 := by
  refine ⟨fun C nL h => ?_, fun C nL h => ?_⟩
  · obtain ⟨rfl, rfl⟩ : C_L_toStop = C ∧ 6 = nL := Prod.mk.injEq _ _ _ _ ▸ Option.some.inj h
    exact ⟨rfl, plain_ok (by decide), rfl, (fun h => by cases h), fun s args h1 h2 => pm_T_of hl cl_all ar_all ik_L_toStop ck_L_toStop s args h2 (fun L xs h => by cases h)⟩
  · obtain ⟨rfl, rfl⟩ : C_L_toStop = C ∧ 6 = nL := Prod.mk.injEq _ _ _ _ ▸ Option.some.inj h
    exact ⟨fun s args c h1 h2 h3 => hd_2_ok h2 (k := 5) (len := 2) (k' := 5) (len' := 2) h3 (by decide +kernel) (by decide +kernel), fun _ _ => rfl⟩
theorem ok_287 (hl : l.stackTraces = false) : okMj l n0 sa sv 287 ∧ okHj n0 sa sv 287 := by
  refine ⟨fun C nL h => ?_, fun C nL h => ?_⟩
  · obtain ⟨rfl, rfl⟩ : C_L_toThin = C ∧ 4 = nL := Prod.mk.injEq _ _ _ _ ▸ Option.some.inj h
    exact ⟨rfl, plain_ok (by decide), rfl, (fun h => by cases h), fun s args h1 h2 => pm_T_of hl cl_all ar_all ik_L_toThin ck_L_toThin s args h2 (fun L xs h => by cases h)⟩
  · obtain ⟨rfl, rfl⟩ : C_L_toThin = C ∧ 4 = nL := Prod.mk.injEq _ _ _ _ ▸ Option.some.inj h
    exact ⟨fun s args c h1 h2 h3 => hd_1_ok h2 (k := 3) (len := 1) h3 (by decide +kernel) (Or.inr ⟨rfl, rfl⟩), fun _ _ => rfl⟩
theorem ok_288 (hl : l.stackTraces = false) : okMj l n0 sa sv 288 ∧ okHj n0 sa sv 288 := by
  refine ⟨fun C nL h => ?_, fun C nL h => ?_⟩
  · obtain ⟨rfl, rfl⟩ : C_L_seats = C ∧ 4 = nL := Prod.mk.injEq _ _ _ _ ▸ Option.some.inj h
    exact ⟨rfl, plain_ok (by decide), rfl, (fun h => by cases h), fun s args h1 h2 => pm_T_of hl cl_all ar_all ik_L_seats ck_L_seats s args h2 (fun L xs h => by cases h)⟩
  · obtain ⟨rfl, rfl⟩ : C_L_seats = C ∧ 4 = nL := Prod.mk.injEq _ _ _ _ ▸ Option.some.inj h
    exact ⟨fun s args c h1 h2 h3 => hd_1_ok h2 (k := 3) (len := 1) h3 (by decide +kernel) (Or.inl ⟨rfl, rfl⟩), fun _ _ => rfl⟩
theorem ok_289 (hl : l.stackTraces = false) : okMj l n0 sa sv 289 ∧ okHj n0 sa sv 289 := by
  refine ⟨fun C nL h => ?_, fun C nL h => ?_⟩
  · obtain ⟨rfl, rfl⟩ : C_L_seat = C ∧ 4 = nL := Prod.mk.injEq _ _ _ _ ▸ Option.some.inj h
    exact ⟨rfl, plain_ok (by decide), rfl, (fun h => by cases h), fun s args h1 h2 => pm_T_of hl cl_all ar_all ik_L_seat ck_L_seat s args h2 (fun L xs h => by cases h)⟩
  · obtain ⟨rfl, rfl⟩ : C_L_seat = C ∧ 4 = nL := Prod.mk.injEq _ _ _ _ ▸ Option.some.inj h
    exact ⟨fun s args c h1 h2 h3 => hd_1_ok h2 (k := 3) (len := 1) h3 (by decide +kernel) (Or.inl ⟨rfl, rfl⟩), fun _ _ => rfl⟩
theorem ok_290 (hl : l.stackTraces = false) : okMj l n0 sa sv 290 ∧ okHj n0 sa sv 290 := by
  refine ⟨fun C nL h => ?_, fun C nL h => ?_⟩
  · obtain ⟨rfl, rfl⟩ : C_L_note = C ∧ 6 = nL := Prod.mk.injEq _ _ _ _ ▸ Option.some.inj h
    exact ⟨rfl, plain_ok (by decide), rfl, (fun h => by cases h), fun s args h1 h2 => pm_T_of hl cl_all ar_all ik_L_note ck_L_note s args h2 (fun L xs h => by cases h)⟩
  · obtain ⟨rfl, rfl⟩ : C_L_note = C ∧ 6 = nL := Prod.mk.injEq _ _ _ _ ▸ Option.some.inj h
    exact ⟨fun s args c h1 h2 h3 => hd_1_ok h2 (k := 5) (len := 2) h3 (by decide +kernel) (Or.inl ⟨rfl, rfl⟩), fun _ _ => rfl⟩
theorem ok_291 (hl : l.stackTraces = false) : okMj l n0 sa sv 291 ∧ okHj n0 sa sv 291 := by
  refine ⟨fun C nL h => ?_, fun C nL h => ?_⟩
  · obtain ⟨rfl, rfl⟩ : C_L_ahead = C ∧ 4 = nL := Prod.mk.injEq _ _ _ _ ▸ Option.some.inj h
    exact ⟨rfl, plain_ok (by decide), rfl, (fun h => by cases h), fun s args h1 h2 => pm_T_of hl cl_all ar_all ik_L_ahead ck_L_ahead s args h2 (fun L xs h => by cases h)⟩
  · obtain ⟨rfl, rfl⟩ : C_L_ahead = C ∧ 4 = nL := Prod.mk.injEq _ _ _ _ ▸ Option.some.inj h
    exact ⟨fun s args c h1 h2 h3 => hd_1_ok h2 (k := 3) (len := 1) h3 (by decide +kernel) (Or.inl ⟨rfl, rfl⟩), fun _ _ => rfl⟩
theorem ok_292 (hl : l.stackTraces = false) : okMj l n0 sa sv 292 ∧ okHj n0 sa sv 292 := by
  refine ⟨fun C nL h => ?_, fun C nL h => ?_⟩
  · obtain ⟨rfl, rfl⟩ : C_L_look = C ∧ 4 = nL := Prod.mk.injEq _ _ _ _ ▸ Option.some.inj h
    exact ⟨rfl, plain_ok (by decide), rfl, (fun h => by cases h), fun s args h1 h2 => pm_T_of hl cl_all ar_all ik_L_look ck_L_look s args h2 (fun L xs h => by cases h)⟩
  · obtain ⟨rfl, rfl⟩ : C_L_look = C ∧ 4 = nL := Prod.mk.injEq _ _ _ _ ▸ Option.some.inj h
    exact ⟨fun s args c h1 h2 h3 => hd_1_ok h2 (k := 3) (len := 1) h3 (by decide +kernel) (Or.inl ⟨rfl, rfl⟩), fun _ _ => rfl⟩
theorem ok_293 (hl : l.stackTraces = false) : okMj l n0 sa sv 293 ∧ okHj n0 sa sv 293 := by
  refine ⟨fun C nL h => ?_, fun C nL h => ?_⟩
  · obtain ⟨rfl, rfl⟩ : C_L_clouds = C ∧ 7 = nL := Prod.mk.injEq _ _ _ _ ▸ Option.some.inj h
    exact ⟨rfl, plain_ok (by decide), rfl, (fun h => by cases h), fun s args h1 h2 => pm_T_of hl cl_all ar_all ik_L_clouds ck_L_clouds s args h2 (fun L xs h => by cases h)⟩
  · obtain ⟨rfl, rfl⟩ : C_L_clouds = C ∧ 7 = nL := Prod.mk.injEq _ _ _ _ ▸ Option.some.inj h
    exact ⟨fun s args c h1 h2 h3 => hd_2_ok h2 (k := 6) (len := 2) (k' := 6) (len' := 2) h3 (by decide +kernel) (by decide +kernel), fun _ _ => rfl⟩
theorem ok_294 (hl : l.stackTraces = false) : okMj l n0 sa sv 294 ∧ okHj n0 sa sv 294 := by
  refine ⟨fun C nL h => ?_, fun C nL h => ?_⟩
  · obtain ⟨rfl, rfl⟩ : C_L_game = C ∧ 6 = nL := Prod.mk.injEq _ _ _ _ ▸ Option.some.inj h
    exact ⟨rfl, plain_ok (by decide), rfl, (fun h => by cases h), fun s args h1 h2 => pm_T_of hl cl_all ar_all ik_L_game ck_L_game s args h2 (fun L xs h => by cases h)⟩
  · obtain ⟨rfl, rfl⟩ : C_L_game = C ∧ 6 = nL := Prod.mk.injEq _ _ _ _ ▸ Option.some.inj h
    exact ⟨fun s args c h1 h2 h3 => hd_2_ok h2 (k := 5) (len := 2) (k' := 5) (len' := 2) h3 (by decide +kernel) (by decide +kernel), fun _ _ => rfl⟩
theorem ok_295 (hl : l.stackTraces = false) : okMj l n0 sa sv 295 ∧ okHj n0 sa sv 295 := by
  refine ⟨fun C nL h => ?_, fun C nL h => ?_⟩
  · obtain ⟨rfl, rfl⟩ : C_L_years = C ∧ 6 = nL := Prod.mk.injEq _ _ _ _ ▸ Option.some.inj h
    exact ⟨rfl, plain_ok (by decide), rfl, (fun h => by cases h), fun s args h1 h2 => pm_T_of hl cl_all ar_all ik_L_years ck_L_years s args h2 (fun L xs h => by cases h)⟩
  · obtain ⟨rfl, rfl⟩ : C_L_years = C ∧ 6 = nL := Prod.mk.injEq _ _ _ _ ▸ Option.some.inj h
    exact ⟨fun s args c h1 h2 h3 => hd_2_ok h2 (k := 5) (len := 2) (k' := 5) (len' := 2) h3 (by decide +kernel) (by decide +kernel), fun _ _ => rfl⟩
theorem ok_296 (hl : l.stackTraces = false) : okMj l n0 sa sv 296 ∧ okHj n0 sa sv 296 := by
  refine ⟨fun C nL h => ?_, fun C nL h => ?_⟩
  · obtain ⟨rfl, rfl⟩ : C_L_later = C ∧ 5 = nL := Prod.mk.injEq _ _ _ _ ▸ Option.some.inj h
    exact ⟨rfl, plain_ok (by decide), rfl, (fun h => by cases h), fun s args h1 h2 => pm_T_of hl cl_all ar_all ik_L_later ck_L_later s args h2 (fun L xs h => by cases h)⟩
  · obtain ⟨rfl, rfl⟩ : C_L_later = C ∧ 5 = nL := Prod.mk.injEq _ _ _ _ ▸ Option.some.inj h
    exact ⟨fun s args c h1 h2 h3 => hd_2_ok h2 (k := 4) (len := 2) (k' := 4) (len' := 2) h3 (by decide +kernel) (by decide +kernel), fun _ _ => rfl⟩
theorem ok_297 (hl : l.stackTraces = false) : okMj l n0 sa sv 297 ∧ okHj n0 sa sv 297 := by
  refine ⟨fun C nL h => ?_, fun C nL h => ?_⟩
  · obtain ⟨rfl, rfl⟩ : C_L_together = C ∧ 6 = nL := Prod.mk.injEq _ _ _ _ ▸ Option.some.inj h
    exact ⟨rfl, plain_ok (by decide), rfl, (fun h => by cases h), fun s args h1 h2 => pm_T_of hl cl_all ar_all ik_L_together ck_L_together s args h2 (fun L xs h => by cases h)⟩
  · obtain ⟨rfl, rfl⟩ : C_L_together = C ∧ 6 = nL := Prod.mk.injEq _ _ _ _ ▸ Option.some.inj h
    exact ⟨fun s args c h1 h2 h3 => hd_2_ok h2 (k := 5) (len := 2) (k' := 5) (len' := 2) h3 (by decide +kernel) (by decide +kernel), fun _ _ => rfl⟩
theorem ok_298 (hl : l.stackTraces = false) : okMj l n0 sa sv 298 ∧ okHj n0 sa sv 298 := by
  refine ⟨fun C nL h => ?_, fun C nL h => ?_⟩
  · obtain ⟨rfl, rfl⟩ : C_L_quiet = C ∧ 5 = nL := Prod.mk.injEq _ _ _ _ ▸ Option.some.inj h
    exact ⟨rfl, plain_ok (by decide), rfl, (fun h => by cases h), fun s args h1 h2 => pm_T_of hl cl_all ar_all ik_L_quiet ck_L_quiet s args h2 (fun L xs h => by cases h)⟩
  · obtain ⟨rfl, rfl⟩ : C_L_quiet = C ∧ 5 = nL := Prod.mk.injEq _ _ _ _ ▸ Option.some.inj h
    exact ⟨fun s args c h1 h2 h3 => hd_2_ok h2 (k := 4) (len := 2) (k' := 4) (len' := 2) h3 (by decide +kernel) (by decide +kernel), fun _ _ => rfl⟩
theorem ok_299 (hl : l.stackTraces = false) : okMj l n0 sa sv 299 ∧ okHj n0 sa sv 299 := by
  refine ⟨fun C nL h => ?_, fun C nL h => ?_⟩
  · obtain ⟨rfl, rfl⟩ : C_L_gone = C ∧ 5 = nL := Prod.mk.injEq _ _ _ _ ▸ Option.some.inj h
    exact ⟨rfl, plain_ok (by decide), rfl, (fun h => by cases h), fun s args h1 h2 => pm_T_of hl cl_all ar_all ik_L_gone ck_L_gone s args h2 (fun L xs h => by cases h)⟩
  · obtain ⟨rfl, rfl⟩ : C_L_gone = C ∧ 5 = nL := Prod.mk.injEq _ _ _ _ ▸ Option.some.inj h
    exact ⟨fun s args c h1 h2 h3 => hd_2_ok h2 (k := 4) (len := 2) (k' := 4) (len' := 2) h3 (by decide +kernel) (by decide +kernel), fun _ _ => rfl⟩
end
theorem ok_c0 {l : Launch} (hl : l.stackTraces = false) (n0 : Nat) (sa sv : Nat → Nat) : ∀ j ∈ [0, 1, 2, 3, 4, 5, 6, 7, 8, 9, 10, 11, 12, 13, 14, 15, 16, 17, 18, 19, 20, 21, 22], okMj l n0 sa sv j ∧ okHj n0 sa sv j := List.forall_mem_cons.mpr ⟨ok_0 n0 sa sv hl, List.forall_mem_cons.mpr ⟨ok_1 n0 sa sv hl, List.forall_mem_cons.mpr ⟨ok_2 n0 sa sv hl, List.forall_mem_cons.mpr ⟨ok_3 n0 sa sv hl, List.forall_mem_cons.mpr ⟨ok_4 n0 sa sv hl, List.forall_mem_cons.mpr ⟨ok_5 n0 sa sv hl, List.forall_mem_cons.mpr ⟨ok_6 n0 sa sv hl, List.forall_mem_cons.mpr ⟨ok_7 n0 sa sv hl, List.forall_mem_cons.mpr ⟨ok_8 n0 sa sv hl, List.forall_mem_cons.mpr ⟨ok_9 n0 sa sv hl, List.forall_mem_cons.mpr ⟨ok_10 n0 sa sv hl, List.forall_mem_cons.mpr ⟨ok_11 n0 sa sv hl, List.forall_mem_cons.mpr ⟨ok_12 n0 sa sv hl, List.forall_mem_cons.mpr ⟨ok_13 n0 sa sv hl, List.forall_mem_cons.mpr ⟨ok_14 n0 sa sv hl, List.forall_mem_cons.mpr ⟨ok_15 n0 sa sv hl, List.forall_mem_cons.mpr ⟨ok_16 n0 sa sv hl, List.forall_mem_cons.mpr ⟨ok_17 n0 sa sv hl, List.forall_mem_cons.mpr ⟨ok_18 n0 sa sv hl, List.forall_mem_cons.mpr ⟨ok_19 n0 sa sv hl, List.forall_mem_cons.mpr ⟨ok_20 n0 sa sv hl, List.forall_mem_cons.mpr ⟨ok_21 n0 sa sv hl, List.forall_mem_cons.mpr ⟨ok_22 n0 sa sv hl, fun _ h => absurd h List.not_mem_nil⟩⟩⟩⟩⟩⟩⟩⟩⟩⟩⟩⟩⟩⟩⟩⟩⟩⟩⟩⟩⟩⟩⟩
theorem ok_c1 {l : Launch} (hl : l.stackTraces = false) (n0 : Nat) (sa sv : Nat → Nat) : ∀ j ∈ [23, 24, 25, 26, 27, 28, 29, 30, 31, 32, 33, 34, 35, 36, 37, 38, 39, 40, 41, 42, 43, 44, 45], okMj l n0 sa sv j ∧ okHj n0 sa sv j := List.forall_mem_cons.mpr ⟨ok_23 n0 sa sv hl, List.forall_mem_cons.mpr ⟨ok_24 n0 sa sv hl, List.forall_mem_cons.mpr ⟨ok_25 n0 sa sv hl, List.forall_mem_cons.mpr ⟨ok_26 n0 sa sv hl, List.forall_mem_cons.mpr ⟨ok_27 n0 sa sv hl, List.forall_mem_cons.mpr ⟨ok_28 n0 sa sv hl, List.forall_mem_cons.mpr ⟨ok_29 n0 sa sv hl, List.forall_mem_cons.mpr ⟨ok_30 n0 sa sv hl, List.forall_mem_cons.mpr ⟨ok_31 n0 sa sv hl, List.forall_mem_cons.mpr ⟨ok_32 n0 sa sv hl, List.forall_mem_cons.mpr ⟨ok_33 n0 sa sv hl, List.forall_mem_cons.mpr ⟨ok_34 n0 sa sv hl, List.forall_mem_cons.mpr ⟨ok_35 n0 sa sv hl, List.forall_mem_cons.mpr ⟨ok_36 n0 sa sv hl, List.forall_mem_cons.mpr ⟨ok_37 n0 sa sv hl, List.forall_mem_cons.mpr ⟨ok_38 n0 sa sv hl, List.forall_mem_cons.mpr ⟨ok_39 n0 sa sv hl, List.forall_mem_cons.mpr ⟨ok_40 n0 sa sv hl, List.forall_mem_cons.mpr ⟨ok_41 n0 sa sv hl, List.forall_mem_cons.mpr ⟨ok_42 n0 sa sv hl, List.forall_mem_cons.mpr ⟨ok_43 n0 sa sv hl, List.forall_mem_cons.mpr ⟨ok_44 n0 sa sv hl, List.forall_mem_cons.mpr ⟨ok_45 n0 sa sv hl, fun _ h => absurd h List.not_mem_nil⟩⟩⟩⟩⟩⟩⟩⟩⟩⟩⟩⟩⟩⟩⟩⟩⟩⟩⟩⟩⟩⟩⟩
theorem ok_c2 {l : Launch} (hl : l.stackTraces = false) (n0 : Nat) (sa sv : Nat → Nat) : ∀ j ∈ [46, 47, 48, 49, 50, 51, 52, 53, 54, 55, 56, 57, 58, 59, 60, 61, 62, 63, 64, 65, 66, 67, 68], okMj l n0 sa sv j ∧ okHj n0 sa sv j := List.forall_mem_cons.mpr ⟨ok_46 n0 sa sv hl, List.forall_mem_cons.mpr ⟨ok_47 n0 sa sv hl, List.forall_mem_cons.mpr ⟨ok_48 n0 sa sv hl, List.forall_mem_cons.mpr ⟨ok_49 n0 sa sv hl, List.forall_mem_cons.mpr ⟨ok_50 n0 sa sv hl, List.forall_mem_cons.mpr ⟨ok_51 n0 sa sv hl, List.forall_mem_cons.mpr ⟨ok_52 n0 sa sv hl, List.forall_mem_cons.mpr ⟨ok_53 n0 sa sv hl, List.forall_mem_cons.mpr ⟨ok_54 n0 sa sv hl, List.forall_mem_cons.mpr ⟨ok_55 n0 sa sv hl, List.forall_mem_cons.mpr ⟨ok_56 n0 sa sv hl, List.forall_mem_cons.mpr ⟨ok_57 n0 sa sv hl, List.forall_mem_cons.mpr ⟨ok_58 n0 sa sv hl, List.forall_mem_cons.mpr ⟨ok_59 n0 sa sv hl, List.forall_mem_cons.mpr ⟨ok_60 n0 sa sv hl, List.forall_mem_cons.mpr ⟨ok_61 n0 sa sv hl, List.forall_mem_cons.mpr ⟨ok_62 n0 sa sv hl, List.forall_mem_cons.mpr ⟨ok_63 n0 sa sv hl, List.forall_mem_cons.mpr ⟨ok_64 n0 sa sv hl, List.forall_mem_cons.mpr ⟨ok_65 n0 sa sv hl, List.forall_mem_cons.mpr ⟨ok_66 n0 sa sv hl, List.forall_mem_cons.mpr ⟨ok_67 n0 sa sv hl, List.forall_mem_cons.mpr ⟨ok_68 n0 sa sv hl, fun _ h => absurd h List.not_mem_nil⟩⟩⟩⟩⟩⟩⟩⟩⟩⟩⟩⟩⟩⟩⟩⟩⟩⟩⟩⟩⟩⟩⟩
theorem ok_c3 {l : Launch} (hl : l.stackTraces = false) (n0 : Nat) (sa sv : Nat → Nat) : ∀ j ∈ [69, 70, 71, 72, 73, 74, 75, 76, 77, 78, 79, 80, 81, 82, 83, 84, 85, 86, 87, 88, 89, 90, 91], okMj l n0 sa sv j ∧ okHj n0 sa sv j := List.forall_mem_cons.mpr ⟨ok_69 n0 sa sv hl, List.forall_mem_cons.mpr ⟨ok_70 n0 sa sv hl, List.forall_mem_cons.mpr ⟨ok_71 n0 sa sv hl, List.forall_mem_cons.mpr ⟨ok_72 n0 sa sv hl, List.forall_mem_cons.mpr ⟨ok_73 n0 sa sv hl, List.forall_mem_cons.mpr ⟨ok_74 n0 sa sv hl, List.forall_mem_cons.mpr ⟨ok_75 n0 sa sv hl, List.forall_mem_cons.mpr ⟨ok_76 n0 sa sv hl, List.forall_mem_cons.mpr ⟨ok_77 n0 sa sv hl, List.forall_mem_cons.mpr ⟨ok_78 n0 sa sv hl, List.forall_mem_cons.mpr ⟨ok_79 n0 sa sv hl, List.forall_mem_cons.mpr ⟨ok_80 n0 sa sv hl, List.forall_mem_cons.mpr ⟨ok_81 n0 sa sv hl, List.forall_mem_cons.mpr ⟨ok_82 n0 sa sv hl, List.forall_mem_cons.mpr ⟨ok_83 n0 sa sv hl, List.forall_mem_cons.mpr ⟨ok_84 n0 sa sv hl, List.forall_mem_cons.mpr ⟨ok_85 n0 sa sv hl, List.forall_mem_cons.mpr ⟨ok_86 n0 sa sv hl, List.forall_mem_cons.mpr ⟨ok_87 n0 sa sv hl, List.forall_mem_cons.mpr ⟨ok_88 n0 sa sv hl, List.forall_mem_cons.mpr ⟨ok_89 n0 sa sv hl, List.forall_mem_cons.mpr ⟨ok_90 n0 sa sv hl, List.forall_mem_cons.mpr ⟨ok_91 n0 sa sv hl, fun _ h => absurd h List.not_mem_nil⟩⟩⟩⟩⟩⟩⟩⟩⟩⟩⟩⟩⟩⟩⟩⟩⟩⟩⟩⟩⟩⟩⟩
theorem ok_c4 {l : Launch} (hl : l.stackTraces = false) (n0 : Nat) (sa sv : Nat → Nat) : ∀ j ∈ [92, 93, 94, 95, 96, 97, 98, 99, 100, 101, 102, 103, 104, 105, 106, 107, 108, 109, 110, 111, 112, 113, 114], okMj l n0 sa sv j ∧ okHj n0 sa sv j := List.forall_mem_cons.mpr ⟨ok_92 n0 sa sv hl, List.forall_mem_cons.mpr ⟨ok_93 n0 sa sv hl, List.forall_mem_cons.mpr ⟨ok_94 n0 sa sv hl, List.forall_mem_cons.mpr ⟨ok_95 n0 sa sv hl, List.forall_mem_cons.mpr ⟨ok_96 n0 sa sv hl, List.forall_mem_cons.mpr ⟨ok_97 n0 sa sv hl, List.forall_mem_cons.mpr ⟨ok_98 n0 sa sv hl, List.forall_mem_cons.mpr ⟨ok_99 n0 sa sv hl, List.forall_mem_cons.mpr ⟨ok_100 n0 sa sv hl, List.forall_mem_cons.mpr ⟨ok_101 n0 sa sv hl, List.forall_mem_cons.mpr ⟨ok_102 n0 sa sv hl, List.forall_mem_cons.mpr ⟨ok_103 n0 sa sv hl, List.forall_mem_cons.mpr ⟨ok_104 n0 sa sv hl, List.forall_mem_cons.mpr ⟨ok_105 n0 sa sv hl, List.forall_mem_cons.mpr ⟨ok_106 n0 sa sv hl, List.forall_mem_cons.mpr ⟨ok_107 n0 sa sv hl, List.forall_mem_cons.mpr ⟨ok_108 n0 sa sv hl, List.forall_mem_cons.mpr ⟨ok_109 n0 sa sv hl, List.forall_mem_cons.mpr ⟨ok_110 n0 sa sv hl, List.forall_mem_cons.mpr ⟨ok_111 n0 sa sv hl, List.forall_mem_cons.mpr ⟨ok_112 n0 sa sv hl, List.forall_mem_cons.mpr ⟨ok_113 n0 sa sv hl, List.forall_mem_cons.mpr ⟨ok_114 n0 sa sv hl, fun _ h => absurd h List.not_mem_nil⟩⟩⟩⟩⟩⟩⟩⟩⟩⟩⟩⟩⟩⟩⟩⟩⟩⟩⟩⟩⟩⟩⟩
theorem ok_c5 {l : Launch} (hl : l.stackTraces = false) (n0 : Nat) (sa sv : Nat → Nat) : ∀ j ∈ [115, 116, 117, 118, 119, 120, 121, 122, 123, 124, 125, 126, 127, 128, 129, 130, 131, 132, 133, 134, 135, 136, 137], okMj l n0 sa sv j ∧ okHj n0 sa sv j := List.forall_mem_cons.mpr ⟨ok_115 n0 sa sv hl, List.forall_mem_cons.mpr ⟨ok_116 n0 sa sv hl, List.forall_mem_cons.mpr ⟨ok_117 n0 sa sv hl, List.forall_mem_cons.mpr ⟨ok_118 n0 sa sv hl, List.forall_mem_cons.mpr ⟨ok_119 n0 sa sv hl, List.forall_mem_cons.mpr ⟨ok_120 n0 sa sv hl, List.forall_mem_cons.mpr ⟨ok_121 n0 sa sv hl, List.forall_mem_cons.mpr ⟨ok_122 n0 sa sv hl, List.forall_mem_cons.mpr ⟨ok_123 n0 sa sv hl, List.forall_mem_cons.mpr ⟨ok_124 n0 sa sv hl, List.forall_mem_cons.mpr ⟨ok_125 n0 sa sv hl, List.forall_mem_cons.mpr ⟨ok_126 n0 sa sv hl, List.forall_mem_cons.mpr ⟨ok_127 n0 sa sv hl, List.forall_mem_cons.mpr ⟨ok_128 n0 sa sv hl, List.forall_mem_cons.mpr ⟨ok_129 n0 sa sv hl, List.forall_mem_cons.mpr ⟨ok_130 n0 sa sv hl, List.forall_mem_cons.mpr ⟨ok_131 n0 sa sv hl, List.forall_mem_cons.mpr ⟨ok_132 n0 sa sv hl, List.forall_mem_cons.mpr ⟨ok_133 n0 sa sv hl, List.forall_mem_cons.mpr ⟨ok_134 n0 sa sv hl, List.forall_mem_cons.mpr ⟨ok_135 n0 sa sv hl, List.forall_mem_cons.mpr ⟨ok_136 n0 sa sv hl, List.forall_mem_cons.mpr ⟨ok_137 n0 sa sv hl, fun _ h => absurd h List.not_mem_nil⟩⟩⟩⟩⟩⟩⟩⟩⟩⟩⟩⟩⟩⟩⟩⟩⟩⟩⟩⟩⟩⟩⟩
theorem ok_c6 {l : Launch} (hl : l.stackTraces = false) (n0 : Nat) (sa sv : Nat → Nat) : ∀ j ∈ [138, 139, 140, 141, 142, 143, 144, 145, 146, 147, 148, 149, 150, 151, 152, 153, 154, 155, 156, 157, 158, 159, 160], okMj l n0 sa sv j ∧ okHj n0 sa sv j := List.forall_mem_cons.mpr ⟨ok_138 n0 sa sv hl, List.forall_mem_cons.mpr ⟨ok_139 n0 sa sv hl, List.forall_mem_cons.mpr ⟨ok_140 n0 sa sv hl, List.forall_mem_cons.mpr ⟨ok_141 n0 sa sv hl, List.forall_mem_cons.mpr ⟨ok_142 n0 sa sv hl, List.forall_mem_cons.mpr ⟨ok_143 n0 sa sv hl, List.forall_mem_cons.mpr ⟨ok_144 n0 sa sv hl, List.forall_mem_cons.mpr ⟨ok_145 n0 sa sv hl, List.forall_mem_cons.mpr ⟨ok_146 n0 sa sv hl, List.forall_mem_cons.mpr ⟨ok_147 n0 sa sv hl, List.forall_mem_cons.mpr ⟨ok_148 n0 sa sv hl, List.forall_mem_cons.mpr ⟨ok_149 n0 sa sv hl, List.forall_mem_cons.mpr ⟨ok_150 n0 sa sv hl, List.forall_mem_cons.mpr ⟨ok_151 n0 sa sv hl, List.forall_mem_cons.mpr ⟨ok_152 n0 sa sv hl, List.forall_mem_cons.mpr ⟨ok_153 n0 sa sv hl, List.forall_mem_cons.mpr ⟨ok_154 n0 sa sv hl, List.forall_mem_cons.mpr ⟨ok_155 n0 sa sv hl, List.forall_mem_cons.mpr ⟨ok_156 n0 sa sv hl, List.forall_mem_cons.mpr ⟨ok_157 n0 sa sv hl, List.forall_mem_cons.mpr ⟨ok_158 n0 sa sv hl, List.forall_mem_cons.mpr ⟨ok_159 n0 sa sv hl, List.forall_mem_cons.mpr ⟨ok_160 n0 sa sv hl, fun _ h => absurd h List.not_mem_nil⟩⟩⟩⟩⟩⟩⟩⟩⟩⟩⟩⟩⟩⟩⟩⟩⟩⟩⟩⟩⟩⟩⟩
theorem ok_c7 {l : Launch} (hl : l.stackTraces = false) (n0 : Nat) (sa sv : Nat → Nat) : ∀ j ∈ [161, 162, 163, 164, 165, 166, 167, 168, 169, 170, 171, 172, 173, 174, 175, 176, 177, 178, 179, 180, 181, 182, 183], okMj l n0 sa sv j ∧ okHj n0 sa sv j := List.forall_mem_cons.mpr ⟨ok_161 n0 sa sv hl, List.forall_mem_cons.mpr ⟨ok_162 n0 sa sv hl, List.forall_mem_cons.mpr ⟨ok_163 n0 sa sv hl, List.forall_mem_cons.mpr ⟨ok_164 n0 sa sv hl, List.forall_mem_cons.mpr ⟨ok_165 n0 sa sv hl, List.forall_mem_cons.mpr ⟨ok_166 n0 sa sv hl, List.forall_mem_cons.mpr ⟨ok_167 n0 sa sv hl, List.forall_mem_cons.mpr ⟨ok_168 n0 sa sv hl, List.forall_mem_cons.mpr ⟨ok_169 n0 sa sv hl, List.forall_mem_cons.mpr ⟨ok_170 n0 sa sv hl, List.forall_mem_cons.mpr ⟨ok_171 n0 sa sv hl, List.forall_mem_cons.mpr ⟨ok_172 n0 sa sv hl, List.forall_mem_cons.mpr ⟨ok_173 n0 sa sv hl, List.forall_mem_cons.mpr ⟨ok_174 n0 sa sv hl, List.forall_mem_cons.mpr ⟨ok_175 n0 sa sv hl, List.forall_mem_cons.mpr ⟨ok_176 n0 sa sv hl, List.forall_mem_cons.mpr ⟨ok_177 n0 sa sv hl, List.forall_mem_cons.mpr ⟨ok_178 n0 sa sv hl, List.forall_mem_cons.mpr ⟨ok_179 n0 sa sv hl, List.forall_mem_cons.mpr ⟨ok_180 n0 sa sv hl, List.forall_mem_cons.mpr ⟨ok_181 n0 sa sv hl, List.forall_mem_cons.mpr ⟨ok_182 n0 sa sv hl, List.forall_mem_cons.mpr ⟨ok_183 n0 sa sv hl, fun _ h => absurd h List.not_mem_nil⟩⟩⟩⟩⟩⟩⟩⟩⟩⟩⟩⟩⟩⟩⟩⟩⟩⟩⟩⟩⟩⟩⟩
theorem ok_c8 {l : Launch} (hl : l.stackTraces = false) (n0 : Nat) (sa sv : Nat → Nat) : ∀ j ∈ [184, 185, 186, 187, 188, 189, 190, 191, 192, 193, 194, 195, 196, 197, 198, 199, 200, 201, 202, 203, 204, 205, 206], okMj l n0 sa sv j ∧ okHj n0 sa sv j := List.forall_mem_cons.mpr ⟨ok_184 n0 sa sv hl, List.forall_mem_cons.mpr ⟨ok_185 n0 sa sv hl, List.forall_mem_cons.mpr ⟨ok_186 n0 sa sv hl, List.forall_mem_cons.mpr ⟨ok_187 n0 sa sv hl, List.forall_mem_cons.mpr ⟨ok_188 n0 sa sv hl, List.forall_mem_cons.mpr ⟨ok_189 n0 sa sv hl, List.forall_mem_cons.mpr ⟨ok_190 n0 sa sv hl, List.forall_mem_cons.mpr ⟨ok_191 n0 sa sv hl, List.forall_mem_cons.mpr ⟨ok_192 n0 sa sv hl, List.forall_mem_cons.mpr ⟨ok_193 n0 sa sv hl, List.forall_mem_cons.mpr ⟨ok_194 n0 sa sv hl, List.forall_mem_cons.mpr ⟨ok_195 n0 sa sv hl, List.forall_mem_cons.mpr ⟨ok_196 n0 sa sv hl, List.forall_mem_cons.mpr ⟨ok_197 n0 sa sv hl, List.forall_mem_cons.mpr ⟨ok_198 n0 sa sv hl, List.forall_mem_cons.mpr ⟨ok_199 n0 sa sv hl, List.forall_mem_cons.mpr ⟨ok_200 n0 sa sv hl, List.forall_mem_cons.mpr ⟨ok_201 n0 sa sv hl, List.forall_mem_cons.mpr ⟨ok_202 n0 sa sv hl, List.forall_mem_cons.mpr ⟨ok_203 n0 sa sv hl, List.forall_mem_cons.mpr ⟨ok_204 n0 sa sv hl, List.forall_mem_cons.mpr ⟨ok_205 n0 sa sv hl, List.forall_mem_cons.mpr ⟨ok_206 n0 sa sv hl, fun _ h => absurd h List.not_mem_nil⟩⟩⟩⟩⟩⟩⟩⟩⟩⟩⟩⟩⟩⟩⟩⟩⟩⟩⟩⟩⟩⟩⟩
theorem ok_c9 {l : Launch} (hl : l.stackTraces = false) (n0 : Nat) (sa sv : Nat → Nat) : ∀ j ∈ [207, 208, 209, 210, 211, 212, 213, 214, 215, 216, 217, 218, 219, 220, 221, 222, 223, 224, 225, 226, 227, 228, 229], okMj l n0 sa sv j ∧ okHj n0 sa sv j := List.forall_mem_cons.mpr ⟨ok_207 n0 sa sv hl, List.forall_mem_cons.mpr ⟨ok_208 n0 sa sv hl, List.forall_mem_cons.mpr ⟨ok_209 n0 sa sv hl, List.forall_mem_cons.mpr ⟨ok_210 n0 sa sv hl, List.forall_mem_cons.mpr ⟨ok_211 n0 sa sv hl, List.forall_mem_cons.mpr ⟨ok_212 n0 sa sv hl, List.forall_mem_cons.mpr ⟨ok_213 n0 sa sv hl, List.forall_mem_cons.mpr ⟨ok_214 n0 sa sv hl, List.forall_mem_cons.mpr ⟨ok_215 n0 sa sv hl, List.forall_mem_cons.mpr ⟨ok_216 n0 sa sv hl, List.forall_mem_cons.mpr ⟨ok_217 n0 sa sv hl, List.forall_mem_cons.mpr ⟨ok_218 n0 sa sv hl, List.forall_mem_cons.mpr ⟨ok_219 n0 sa sv hl, List.forall_mem_cons.mpr ⟨ok_220 n0 sa sv hl, List.forall_mem_cons.mpr ⟨ok_221 n0 sa sv hl, List.forall_mem_cons.mpr ⟨ok_222 n0 sa sv hl, List.forall_mem_cons.mpr ⟨ok_223 n0 sa sv hl, List.forall_mem_cons.mpr ⟨ok_224 n0 sa sv hl, List.forall_mem_cons.mpr ⟨ok_225 n0 sa sv hl, List.forall_mem_cons.mpr ⟨ok_226 n0 sa sv hl, List.forall_mem_cons.mpr ⟨ok_227 n0 sa sv hl, List.forall_mem_cons.mpr ⟨ok_228 n0 sa sv hl, List.forall_mem_cons.mpr ⟨ok_229 n0 sa sv hl, fun _ h => absurd h List.not_mem_nil⟩⟩⟩⟩⟩⟩⟩⟩⟩⟩⟩⟩⟩⟩⟩⟩⟩⟩⟩⟩⟩⟩⟩
theorem ok_c10 {l : Launch} (hl : l.stackTraces = false) (n0 : Nat) (sa sv : Nat → Nat) : ∀ j ∈ [230, 231, 232, 233, 234, 235, 236, 237, 238, 239, 240, 241, 242, 243, 244, 245, 246, 247, 248, 249, 250, 251, 252], okMj l n0 sa sv j ∧ okHj n0 sa sv j := List.forall_mem_cons.mpr ⟨ok_230 n0 sa sv hl, List.forall_mem_cons.mpr ⟨ok_231 n0 sa sv hl, List.forall_mem_cons.mpr ⟨ok_232 n0 sa sv hl, List.forall_mem_cons.mpr ⟨ok_233 n0 sa sv hl, List.forall_mem_cons.mpr ⟨ok_234 n0 sa sv hl, List.forall_mem_cons.mpr ⟨ok_235 n0 sa sv hl, List.forall_mem_cons.mpr ⟨ok_236 n0 sa sv hl, List.forall_mem_cons.mpr ⟨ok_237 n0 sa sv hl, List.forall_mem_cons.mpr ⟨ok_238 n0 sa sv hl, List.forall_mem_cons.mpr ⟨ok_239 n0 sa sv hl, List.forall_mem_cons.mpr ⟨ok_240 n0 sa sv hl, List.forall_mem_cons.mpr ⟨ok_241 n0 sa sv hl, List.forall_mem_cons.mpr ⟨ok_242 n0 sa sv hl, List.forall_mem_cons.mpr ⟨ok_243 n0 sa sv hl, List.forall_mem_cons.mpr ⟨ok_244 n0 sa sv hl, List.forall_mem_cons.mpr ⟨ok_245 n0 sa sv hl, List.forall_mem_cons.mpr ⟨ok_246 n0 sa sv hl, List.forall_mem_cons.mpr ⟨ok_247 n0 sa sv hl, List.forall_mem_cons.mpr ⟨ok_248 n0 sa sv hl, List.forall_mem_cons.mpr ⟨ok_249 n0 sa sv hl, List.forall_mem_cons.mpr ⟨ok_250 n0 sa sv hl, List.forall_mem_cons.mpr ⟨ok_251 n0 sa sv hl, List.forall_mem_cons.mpr ⟨ok_252 n0 sa sv hl, fun _ h => absurd h List.not_mem_nil⟩⟩⟩⟩⟩⟩⟩⟩⟩⟩⟩⟩⟩⟩⟩⟩⟩⟩⟩⟩⟩⟩⟩
theorem ok_c11 {l : Launch} (hl : l.stackTraces = false) (n0 : Nat) (sa sv : Nat → Nat) : ∀ j ∈ [253, 254, 255, 256, 257, 258, 259, 260, 261, 262, 263, 264, 265, 266, 267, 268, 269, 270, 271, 272, 273, 274, 275], okMj l n0 sa sv j ∧ okHj n0 sa sv j := List.forall_mem_cons.mpr ⟨ok_253 n0 sa sv hl, List.forall_mem_cons.mpr ⟨ok_254 n0 sa sv hl, List.forall_mem_cons.mpr ⟨ok_255 n0 sa sv hl, List.forall_mem_cons.mpr ⟨ok_256 n0 sa sv hl, List.forall_mem_cons.mpr ⟨ok_257 n0 sa sv hl, List.forall_mem_cons.mpr ⟨ok_258 n0 sa sv hl, List.forall_mem_cons.mpr ⟨ok_259 n0 sa sv hl, List.forall_mem_cons.mpr ⟨ok_260 n0 sa sv hl, List.forall_mem_cons.mpr ⟨ok_261 n0 sa sv hl, List.forall_mem_cons.mpr ⟨ok_262 n0 sa sv hl, List.forall_mem_cons.mpr ⟨ok_263 n0 sa sv hl, List.forall_mem_cons.mpr ⟨ok_264 n0 sa sv hl, List.forall_mem_cons.mpr ⟨ok_265 n0 sa sv hl, List.forall_mem_cons.mpr ⟨ok_266 n0 sa sv hl, List.forall_mem_cons.mpr ⟨ok_267 n0 sa sv hl, List.forall_mem_cons.mpr ⟨ok_268 n0 sa sv hl, List.forall_mem_cons.mpr ⟨ok_269 n0 sa sv hl, List.forall_mem_cons.mpr ⟨ok_270 n0 sa sv hl, List.forall_mem_cons.mpr ⟨ok_271 n0 sa sv hl, List.forall_mem_cons.mpr ⟨ok_272 n0 sa sv hl, List.forall_mem_cons.mpr ⟨ok_273 n0 sa sv hl, List.forall_mem_cons.mpr ⟨ok_274 n0 sa sv hl, List.forall_mem_cons.mpr ⟨ok_275 n0 sa sv hl, fun _ h => absurd h List.not_mem_nil⟩⟩⟩⟩⟩⟩⟩⟩⟩⟩⟩⟩⟩⟩⟩⟩⟩⟩⟩⟩⟩⟩⟩
theorem ok_c12 {l : Launch} (hl : l.stackTraces = false) (n0 : Nat) (sa sv : Nat → Nat) : ∀ j ∈ [276, 277, 278, 279, 280, 281, 282, 283, 284, 285, 286, 287, 288, 289, 290, 291, 292, 293, 294, 295, 296, 297, 298], okMj l n0 sa sv j ∧ okHj n0 sa sv j := List.forall_mem_cons.mpr ⟨ok_276 n0 sa sv hl, List.forall_mem_cons.mpr ⟨ok_277 n0 sa sv hl, List.forall_mem_cons.mpr ⟨ok_278 n0 sa sv hl, List.forall_mem_cons.mpr ⟨ok_279 n0 sa sv hl, List.forall_mem_cons.mpr ⟨ok_280 n0 sa sv hl, List.forall_mem_cons.mpr ⟨ok_281 n0 sa sv hl, List.forall_mem_cons.mpr ⟨ok_282 n0 sa sv hl, List.forall_mem_cons.mpr ⟨ok_283 n0 sa sv hl, List.forall_mem_cons.mpr ⟨ok_284 n0 sa sv hl, List.forall_mem_cons.mpr ⟨ok_285 n0 sa sv hl, List.forall_mem_cons.mpr ⟨ok_286 n0 sa sv hl, List.forall_mem_cons.mpr ⟨ok_287 n0 sa sv hl, List.forall_mem_cons.mpr ⟨ok_288 n0 sa sv hl, List.forall_mem_cons.mpr ⟨ok_289 n0 sa sv hl, List.forall_mem_cons.mpr ⟨ok_290 n0 sa sv hl, List.forall_mem_cons.mpr ⟨ok_291 n0 sa sv hl, List.forall_mem_cons.mpr ⟨ok_292 n0 sa sv hl, List.forall_mem_cons.mpr ⟨ok_293 n0 sa sv hl, List.forall_mem_cons.mpr ⟨ok_294 n0 sa sv hl, List.forall_mem_cons.mpr ⟨ok_295 n0 sa sv hl, List.forall_mem_cons.mpr ⟨ok_296 n0 sa sv hl, List.forall_mem_cons.mpr ⟨ok_297 n0 sa sv hl, List.forall_mem_cons.mpr ⟨ok_298 n0 sa sv hl, fun _ h => absurd h List.not_mem_nil⟩⟩⟩⟩⟩⟩⟩⟩⟩⟩⟩⟩⟩⟩⟩⟩⟩⟩⟩⟩⟩⟩⟩
theorem ok_c13 {l : Launch} (hl : l.stackTraces = false) (n0 : Nat) (sa sv : Nat → Nat) : ∀ j ∈ [299], okMj l n0 sa sv j ∧ okHj n0 sa sv j := List.forall_mem_cons.mpr ⟨ok_299 n0 sa sv hl, fun _ h => absurd h List.not_mem_nil⟩
def mjs : List Nat := [0, 1, 2, 3, 4, 5, 6, 7, 8, 9, 10, 11, 12, 13, 14, 15, 16, 17, 18, 19, 20, 21, 22] ++ ([23, 24, 25, 26, 27, 28, 29, 30, 31, 32, 33, 34, 35, 36, 37, 38, 39, 40, 41, 42, 43, 44, 45] ++ ([46, 47, 48, 49, 50, 51, 52, 53, 54, 55, 56, 57, 58, 59, 60, 61, 62, 63, 64, 65, 66, 67, 68] ++ ([69, 70, 71, 72, 73, 74, 75, 76, 77, 78, 79, 80, 81, 82, 83, 84, 85, 86, 87, 88, 89, 90, 91] ++ ([92, 93, 94, 95, 96, 97, 98, 99, 100, 101, 102, 103, 104, 105, 106, 107, 108, 109, 110, 111, 112, 113, 114] ++ ([115, 116, 117, 118, 119, 120, 121, 122, 123, 124, 125, 126, 127, 128, 129, 130, 131, 132, 133, 134, 135, 136, 137] ++ ([138, 139, 140, 141, 142, 143, 144, 145, 146, 147, 148, 149, 150, 151, 152, 153, 154, 155, 156, 157, 158, 159, 160] ++ ([161, 162, 163, 164, 165, 166, 167, 168, 169, 170, 171, 172, 173, 174, 175, 176, 177, 178, 179, 180, 181, 182, 183] ++ ([184, 185, 186, 187, 188, 189, 190, 191, 192, 193, 194, 195, 196, 197, 198, 199, 200, 201, 202, 203, 204, 205, 206] ++ ([207, 208, 209, 210, 211, 212, 213, 214, 215, 216, 217, 218, 219, 220, 221, 222, 223, 224, 225, 226, 227, 228, 229] ++ ([230, 231, 232, 233, 234, 235, 236, 237, 238, 239, 240, 241, 242, 243, 244, 245, 246, 247, 248, 249, 250, 251, 252] ++ ([253, 254, 255, 256, 257, 258, 259, 260, 261, 262, 263, 264, 265, 266, 267, 268, 269, 270, 271, 272, 273, 274, 275] ++ ([276, 277, 278, 279, 280, 281, 282, 283, 284, 285, 286, 287, 288, 289, 290, 291, 292, 293, 294, 295, 296, 297, 298] ++ ([299])))))))))))))
theorem ok_js {l : Launch} (hl : l.stackTraces = false) (n0 : Nat) (sa sv : Nat → Nat) : ∀ j ∈ mjs, okMj l n0 sa sv j ∧ okHj n0 sa sv j := List.forall_mem_append.mpr ⟨ok_c0 hl n0 sa sv, List.forall_mem_append.mpr ⟨ok_c1 hl n0 sa sv, List.forall_mem_append.mpr ⟨ok_c2 hl n0 sa sv, List.forall_mem_append.mpr ⟨ok_c3 hl n0 sa sv, List.forall_mem_append.mpr ⟨ok_c4 hl n0 sa sv, List.forall_mem_append.mpr ⟨ok_c5 hl n0 sa sv, List.forall_mem_append.mpr ⟨ok_c6 hl n0 sa sv, List.forall_mem_append.mpr ⟨ok_c7 hl n0 sa sv, List.forall_mem_append.mpr ⟨ok_c8 hl n0 sa sv, List.forall_mem_append.mpr ⟨ok_c9 hl n0 sa sv, List.forall_mem_append.mpr ⟨ok_c10 hl n0 sa sv, List.forall_mem_append.mpr ⟨ok_c11 hl n0 sa sv, List.forall_mem_append.mpr ⟨ok_c12 hl n0 sa sv, ok_c13 hl n0 sa sv⟩⟩⟩⟩⟩⟩⟩⟩⟩⟩⟩⟩⟩
theorem mjs_all : ∀ j, j < 300 → j ∈ mjs := by decide +kernel
theorem mtab_len : mtab.length = 300 := by decide +kernel
theorem M_lt {j : Nat} {q : pC × Nat} (h : M j = some q) : j < 300 := by
  unfold M at h
  cases hm : mtab[j]? with
  | none => rw [hm] at h; cases h
  | some o => exact mtab_len ▸ (List.getElem?_eq_some_iff.mp hm).1
/-- THE CARRYING OVER, with this claim's tables -/
theorem sound {l : Launch} (hl : l.stackTraces = false) {D : va_G} {n0 : Nat} {sa sv : Nat → Nat} {ck : Nat → ClassId} {ext : pCall} (hE : ∀ d j as S Q, 5 ≤ d → M j = none → ext j as S Q → pm_Met l D n0 sa ck (GG n0 sa sv) TW Y cost (d + 1) j as S Q) : ∀ d j as S Q, pm_call M cost ext d j as S Q → pm_Met l D n0 sa ck (GG n0 sa sv) TW Y cost d j as S Q :=
  pm_sound (GG_m n0 sa sv) (fun j C nL h => (ok_js hl n0 sa sv j (mjs_all j (M_lt h))).1 C nL h) (fun j C nL h => (ok_js hl n0 sa sv j (mjs_all j (M_lt h))).2 C nL h) hE
