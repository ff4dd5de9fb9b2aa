def costs : List (Nat × Nat × Bool) := [(4, 1144, true), (0, 0, false), (0, 0, false), (0, 0, false), (0, 0, false), (0, 0, false), (0, 0, false), (0, 0, false), (6, 48, true), (0, 0, false), (0, 0, false), (0, 0, false), (1, 6, true), (0, 0, false), (0, 0, false), (0, 0, false), (0, 0, false), (0, 0, false), (0, 0, false), (11, 1598, true), (0, 0, false), (0, 0, false), (0, 0, false), (0, 0, false), (0, 0, false), (0, 0, false), (0, 0, false), (0, 0, false), (0, 0, false), (2, 134, true), (0, 0, false), (0, 0, false), (0, 0, false), (0, 0, false), (0, 0, false), (0, 0, false), (0, 0, false), (0, 0, false), (0, 0, false), (0, 0, false), (0, 0, false), (0, 0, false), (2, 748, true), (0, 0, false), (0, 0, false), (0, 0, false), (0, 0, false), (0, 0, false), (1, 128, true), (0, 0, false), (0, 0, false), (0, 0, false), (0, 0, false), (0, 0, false), (0, 0, false), (0, 0, false), (0, 0, false), (0, 0, false), (0, 0, false), (0, 0, false), (0, 0, false), (3, 2376, true), (0, 0, false), (0, 0, false), (0, 0, false), (0, 0, false), (0, 0, false), (4, 32, true), (0, 0, false), (0, 0, false), (0, 0, false), (0, 0, false), (0, 0, false), (0, 0, false), (0, 0, false), (0, 0, false), (0, 0, false), (0, 0, false), (0, 0, false), (0, 0, false), (0, 0, false), (1, 700, true), (0, 0, false), (0, 0, false), (0, 0, false), (0, 0, false), (0, 0, false), (0, 0, false), (0, 0, false), (0, 0, false), (0, 0, false), (0, 0, false), (0, 0, false), (2, 72, true), (0, 0, false), (0, 0, false), (0, 0, false), (0, 0, false), (74, 9060, true), (0, 0, false), (1, 6, false), (0, 0, false), (1, 6, false), (1, 6, false), (1, 6, false), (0, 0, false), (1, 6, false), (1, 6, false), (1, 6, false), (1, 6, false), (0, 0, false), (1, 6, false), (1, 6, false), (1, 6, false), (1, 6, false), (0, 0, false), (1, 6, false), (1, 6, false), (1, 6, false), (1, 6, false), (1, 6, false), (1, 6, false), (1, 6, false), (0, 0, false), (1, 6, false), (1, 6, false), (1, 6, false), (1, 6, false), (1, 6, false), (1, 6, false), (1, 6, false), (1, 6, false), (1, 6, false), (0, 0, false), (0, 0, false), (1, 6, false), (1, 6, false), (1, 6, false), (1, 6, false), (0, 0, false), (0, 0, false), (0, 0, false), (0, 0, false), (0, 0, false), (0, 0, false), (0, 0, false), (0, 0, false), (0, 0, false), (0, 0, false), (0, 0, false), (0, 0, false), (0, 0, false), (0, 0, false), (31, 14526, true), (0, 0, false), (0, 0, false), (0, 0, false), (0, 0, false), (0, 0, false), (0, 0, false), (0, 0, false), (0, 0, false), (0, 0, false), (0, 0, false), (0, 0, false), (0, 0, false), (0, 0, false), (0, 0, false), (0, 0, false), (0, 0, false), (0, 0, false), (0, 0, false), (0, 0, false), (0, 0, false), (0, 0, false), (0, 0, false), (0, 0, false), (0, 0, false), (0, 0, false), (0, 0, false), (0, 0, false), (0, 0, false), (0, 0, false), (0, 0, false), (0, 0, false), (0, 0, false), (0, 0, false), (0, 0, false), (0, 0, false), (0, 0, false), (0, 0, false), (0, 0, false), (0, 0, false), (0, 0, false), (0, 0, false), (0, 0, false), (0, 0, false), (0, 0, false), (0, 0, false), (0, 0, false), (0, 0, false), (0, 0, false), (0, 0, false), (0, 0, false), (0, 0, false), (0, 0, false), (0, 0, false), (0, 0, false), (0, 0, false), (0, 0, false), (0, 0, false), (0, 0, false), (0, 0, false), (0, 0, false), (0, 0, false), (0, 0, false), (0, 0, false), (0, 0, false), (0, 0, false), (0, 0, false), (0, 0, false), (0, 0, false), (0, 0, false), (0, 0, false), (0, 0, false), (0, 0, false), (0, 0, false), (0, 0, false), (0, 0, false), (0, 0, false), (0, 0, false), (0, 0, false), (0, 0, false), (0, 0, false), (0, 0, false), (0, 0, false), (0, 0, false), (0, 0, false), (0, 0, false), (0, 0, false), (0, 0, false), (0, 0, false), (0, 0, false), (0, 0, false), (0, 0, false), (0, 0, false), (0, 0, false), (0, 0, false), (0, 0, false), (0, 0, false), (0, 0, false), (0, 0, false), (0, 0, false), (0, 0, false), (0, 0, false), (0, 0, false), (0, 0, false), (0, 0, false), (0, 0, false), (0, 0, false), (0, 0, false), (0, 0, false), (0, 0, false), (0, 0, false), (0, 0, false), (0, 0, false), (0, 0, false), (0, 0, false), (0, 0, false), (0, 0, false), (0, 0, false), (0, 0, false), (0, 0, false), (0, 0, false)]
def cost (j : Nat) : Nat × Nat × Bool := costs.getD j (0, 0, false)
noncomputable def mtab : List (pC × Nat) := [(C_X0_init, 1), (C_X0_clearActs, 1), (C_X0_clearNotes, 1), (C_X0_keep, 2), (C_X0_takeBack, 2), (C_X0_add, 4), (C_X0_copyFrom, 2), (C_X0_agrees, 4), (C_X1_init, 1), (C_X1_search, 7), (C_X1_holdsAll, 6), (C_X1_addPlaces, 4), (C_X2_init, 1), (C_X2_passHours, 5), (C_X2_passHour, 5), (C_X2_hurt, 5), (C_X2_wantsToGo, 4), (C_X2_go, 5), (C_X2_setValues, 4), (C_X3_init, 1), (C_X3_clear, 1), (C_X3_cells, 1), (C_X3_lightOf, 2), (C_X3_isDull, 2), (C_X3_stepOf, 4), (C_X3_seatsAt, 4), (C_X3_isWall, 2), (C_X3_isStart, 3), (C_X3_beside, 4), (C_X4_init, 1), (C_X4_read, 6), (C_X4_readTable, 4), (C_X4_sideFault, 1), (C_X4_readStop, 1), (C_X4_readLine, 3), (C_X4_cellFault, 2), (C_X4_readWall, 3), (C_X4_readFigure, 5), (C_X4_readSeat, 3), (C_X4_readLight, 4), (C_X4_readRow, 6), (C_X4_readDull, 2), (C_X5_init, 1), (C_X5_clear, 1), (C_X5_isTold, 1), (C_X5_add, 2), (C_X5_value, 5), (C_X5_join, 3), (C_X6_init, 1), (C_X6_read, 6), (C_X6_isEnd, 2), (C_X6_beginPart, 2), (C_X6_readPart, 5), (C_X6_readNumber, 3), (C_X6_readWord, 5), (C_X6_valueOf, 2), (C_X6_readOperator, 6), (C_X6_operatorOf, 1), (C_X6_rankOf, 1), (C_X6_push, 2), (C_X6_release, 3), (C_X7_init, 1), (C_X7_place, 6), (C_X7_measureAll, 6), (C_X7_bestFrom, 6), (C_X7_worthAt, 5), (C_X7_choose, 5), (C_X8_init, 1), (C_X8_begin, 2), (C_X8_copyFrom, 2), (C_X8_saveTo, 3), (C_X8_loadFrom, 3), (C_X8_isWall, 2), (C_X8_figuresAt, 4), (C_X8_othersWith, 4), (C_X8_aloneBits, 3), (C_X8_placedAsBits, 4), (C_X8_isPlacedAs, 2), (C_X8_places, 4), (C_X8_soreOfAll, 3), (C_X8_heldBits, 3), (C_X9_init, 1), (C_X9_add, 3), (C_X9_begin, 2), (C_X9_advance, 2), (C_X9_readNumber, 1), (C_X9_isLetter, 1), (C_X9_isDigit, 1), (C_X9_hasManyDigits, 1), (C_X9_isNumber, 2), (C_X9_isSign, 2), (C_X9_sign, 1), (C_X9_isWord, 3), (C_X10_init, 1), (C_X10_measure, 9), (C_X10_firstStep, 7), (C_X10_parts, 8), (C_X10_seenFrom, 8), (C_X11_init, 1), (C_X11_feed, 6), (C_X11_town, 4), (C_X11_fault, 1), (C_X11_count, 2), (C_X11_figure, 3), (C_X11_cell, 3), (C_X11_hours, 2), (C_X11_stop, 3), (C_X11_lift, 4), (C_X11_brush, 3), (C_X11_wall, 3), (C_X11_undo, 1), (C_X11_then, 4), (C_X11_comes, 4), (C_X11_meet, 4), (C_X11_crowd, 7), (C_X11_round, 2), (C_X11_spread, 6), (C_X11_way, 4), (C_X11_toStop, 5), (C_X11_toThin, 4), (C_X11_seats, 2), (C_X11_seat, 2), (C_X11_note, 4), (C_X11_forget, 1), (C_X11_ahead, 2), (C_X11_look, 6), (C_X11_clouds, 10), (C_X11_game, 7), (C_X11_years, 6), (C_X11_later, 3), (C_X11_together, 6), (C_X11_quiet, 5), (C_X11_gone, 6), (C_X11_image, 1), (C_X11_restore, 1), (C_X11_checkFigure, 2), (C_X11_checkCell, 2), (C_X11_checkWhat, 2), (C_X11_checkHours, 3), (C_X11_refuseAct, 1), (C_X11_pay, 2), (C_X11_foresee, 2), (C_X11_passFuture, 1), (C_X11_addMeetings, 2), (C_X11_noneMeets, 3), (C_X11_play, 7), (C_X11_rests, 3), (C_X11_draw, 2), (C_X11_drawFate, 4), (C_X11_busiest, 5), (C_X11_sorest, 5), (C_X11_alone, 4), (C_X11_stuck, 4), (C_X12_init, 1), (C_X12_thrown, 1), (C_X12_right, 3), (C_X12_within, 3), (C_X12_bounded, 3), (C_X12_lesser, 2), (C_X12_copies, 4), (C_X12_bits, 3), (C_X12_feed, 6), (C_X12_lays, 3), (C_X12_byteAt, 2), (C_X12_isLetter, 1), (C_X12_isDigit, 1), (C_X12_goes, 2), (C_X12_spelled, 8), (C_X12_letters, 1), (C_X12_knownWord, 2), (C_X12_wrong, 2), (C_X12_isGood, 1), (C_X12_isSign, 2), (C_X12_need, 2), (C_X12_number, 4), (C_X12_cellHere, 1), (C_X12_puts, 2), (C_X12_isOpen, 1), (C_X12_strength, 1), (C_X12_drops, 2), (C_X12_waitsFor, 2), (C_X12_part, 2), (C_X12_deeper, 1), (C_X12_operand, 5), (C_X12_isOpened, 2), (C_X12_closes, 1), (C_X12_expression, 5), (C_X12_begins, 3), (C_X12_readsWall, 3), (C_X12_readsFigure, 5), (C_X12_readsSeat, 1), (C_X12_readsLight, 3), (C_X12_line, 2), (C_X12_town, 3), (C_X12_fault, 1), (C_X12_keeps, 2), (C_X12_refuses, 2), (C_X12_undo, 2), (C_X12_tries, 2), (C_X12_works, 3), (C_X12_reckons, 5), (C_X12_lightAt, 2), (C_X12_isDull, 2), (C_X12_atCell, 5), (C_X12_withIt, 3), (C_X12_stepOf, 3), (C_X12_tells, 3), (C_X12_hurtsBy, 3), (C_X12_isGoing, 3), (C_X12_beside, 3), (C_X12_figureGoes, 4), (C_X12_hourGoes, 3), (C_X12_hoursGo, 3), (C_X12_sumOf, 6), (C_X12_heldOnes, 3), (C_X12_laysFar, 7), (C_X12_parts, 5), (C_X12_count, 2), (C_X12_isFigure, 2), (C_X12_isCell, 2), (C_X12_isWhat, 3), (C_X12_isSoon, 4), (C_X12_figure, 3), (C_X12_seenFrom, 5), (C_X12_cell, 5), (C_X12_hours, 3), (C_X12_stop, 3), (C_X12_lift, 4), (C_X12_brush, 3), (C_X12_wall, 5), (C_X12_goesTo, 2), (C_X12_then, 4), (C_X12_comes, 4), (C_X12_meet, 4), (C_X12_mostOften, 3), (C_X12_clears, 2), (C_X12_marks, 2), (C_X12_crowd, 4), (C_X12_areAsNow, 3), (C_X12_round, 2), (C_X12_spread, 5), (C_X12_later, 7), (C_X12_together, 6), (C_X12_quiet, 5), (C_X12_gone, 6), (C_X12_way, 7), (C_X12_toStop, 5), (C_X12_toThin, 6), (C_X12_sits, 4), (C_X12_canSit, 4), (C_X12_laysSeats, 5), (C_X12_seats, 2), (C_X12_seat, 6), (C_X12_note, 4), (C_X12_forget, 1), (C_X12_isNoted, 3), (C_X12_isGuess, 3), (C_X12_ahead, 5), (C_X12_look, 10), (C_X12_clouds, 9), (C_X12_gains, 7), (C_X12_game, 9), (C_X12_draw, 2), (C_X12_happens, 4), (C_X12_years, 8), (C_X12_image, 2), (C_X12_restore, 2), (C_J6_bitCount_0f7a4, 1), (C_J13_bitCount_95d88, 2), (C_J7_fill_d0a16, 5), (C_J7_fill_53178, 4)]
noncomputable def M (j : Nat) : Option (pC × Nat) := mtab[j]?
def okMj (l : Launch) (n0 : Nat) (sa sv : Nat → Nat) (j : Nat) : Prop := ∀ C nL, M j = some (C, nL) → nL = (Y j).2.2.1 ∧ plainName (Y j).1.cls = true ∧ (Y j).2.2.2 = pc_rt C ∧ (pc_ini C = true → (Y j).1.name = "<init>") ∧ ∀ s args, (∀ w ∈ pm_ws Y TW j, w.before args s = true) → GG n0 sa sv s → pm_T l s args n0 sa C (Y j).2.1 (Y j).1.cls (pm_ws Y TW j) TW Y
section
variable {l : Launch} (hl : l.stackTraces = false) (n0 : Nat) (sa sv : Nat → Nat)
theorem ok_0 (hl : l.stackTraces = false) : okMj l n0 sa sv 0 := by
  intro C nL h
  obtain ⟨rfl, rfl⟩ : C_X0_init = C ∧ 1 = nL := Prod.mk.injEq _ _ _ _ ▸ Option.some.inj h
  exact ⟨rfl, plain_ok (by decide), rfl, fun _ => rfl, fun s args h1 h2 => pm_T_of hl cl_all ar_all ik_X0_init ck_X0_init s args h1 h2⟩
theorem ok_1 (hl : l.stackTraces = false) : okMj l n0 sa sv 1 := by
  intro C nL h
  obtain ⟨rfl, rfl⟩ : C_X0_clearActs = C ∧ 1 = nL := Prod.mk.injEq _ _ _ _ ▸ Option.some.inj h
  exact ⟨rfl, plain_ok (by decide), rfl, (fun h => by cases h), fun s args h1 h2 => pm_T_of hl cl_all ar_all ik_X0_clearActs ck_X0_clearActs s args h1 h2⟩
theorem ok_2 (hl : l.stackTraces = false) : okMj l n0 sa sv 2 := by
  intro C nL h
  obtain ⟨rfl, rfl⟩ : C_X0_clearNotes = C ∧ 1 = nL := Prod.mk.injEq _ _ _ _ ▸ Option.some.inj h
  exact ⟨rfl, plain_ok (by decide), rfl, (fun h => by cases h), fun s args h1 h2 => pm_T_of hl cl_all ar_all ik_X0_clearNotes ck_X0_clearNotes s args h1 h2⟩
theorem ok_3 (hl : l.stackTraces = false) : okMj l n0 sa sv 3 := by
  intro C nL h
  obtain ⟨rfl, rfl⟩ : C_X0_keep = C ∧ 2 = nL := Prod.mk.injEq _ _ _ _ ▸ Option.some.inj h
  exact ⟨rfl, plain_ok (by decide), rfl, (fun h => by cases h), fun s args h1 h2 => pm_T_of hl cl_all ar_all ik_X0_keep ck_X0_keep s args h1 h2⟩
theorem ok_4 (hl : l.stackTraces = false) : okMj l n0 sa sv 4 := by
  intro C nL h
  obtain ⟨rfl, rfl⟩ : C_X0_takeBack = C ∧ 2 = nL := Prod.mk.injEq _ _ _ _ ▸ Option.some.inj h
  exact ⟨rfl, plain_ok (by decide), rfl, (fun h => by cases h), fun s args h1 h2 => pm_T_of hl cl_all ar_all ik_X0_takeBack ck_X0_takeBack s args h1 h2⟩
theorem ok_5 (hl : l.stackTraces = false) : okMj l n0 sa sv 5 := by
  intro C nL h
  obtain ⟨rfl, rfl⟩ : C_X0_add = C ∧ 4 = nL := Prod.mk.injEq _ _ _ _ ▸ Option.some.inj h
  exact ⟨rfl, plain_ok (by decide), rfl, (fun h => by cases h), fun s args h1 h2 => pm_T_of hl cl_all ar_all ik_X0_add ck_X0_add s args h1 h2⟩
theorem ok_6 (hl : l.stackTraces = false) : okMj l n0 sa sv 6 := by
  intro C nL h
  obtain ⟨rfl, rfl⟩ : C_X0_copyFrom = C ∧ 2 = nL := Prod.mk.injEq _ _ _ _ ▸ Option.some.inj h
  exact ⟨rfl, plain_ok (by decide), rfl, (fun h => by cases h), fun s args h1 h2 => pm_T_of hl cl_all ar_all ik_X0_copyFrom ck_X0_copyFrom s args h1 h2⟩
theorem ok_7 (hl : l.stackTraces = false) : okMj l n0 sa sv 7 := by
  intro C nL h
  obtain ⟨rfl, rfl⟩ : C_X0_agrees = C ∧ 4 = nL := Prod.mk.injEq _ _ _ _ ▸ Option.some.inj h
  exact ⟨rfl, plain_ok (by decide), rfl, (fun h => by cases h), fun s args h1 h2 => pm_T_of hl cl_all ar_all ik_X0_agrees ck_X0_agrees s args h1 h2⟩
theorem ok_8 (hl : l.stackTraces = false) : okMj l n0 sa sv 8 := by
  intro C nL h
  obtain ⟨rfl, rfl⟩ : C_X1_init = C ∧ 1 = nL := Prod.mk.injEq _ _ _ _ ▸ Option.some.inj h
  exact ⟨rfl, plain_ok (by decide), rfl, fun _ => rfl, fun s args h1 h2 => pm_T_of hl cl_all ar_all ik_X1_init ck_X1_init s args h1 h2⟩
theorem ok_9 (hl : l.stackTraces = false) : okMj l n0 sa sv 9 := by
  intro C nL h
  obtain ⟨rfl, rfl⟩ : C_X1_search = C ∧ 7 = nL := Prod.mk.injEq _ _ _ _ ▸ Option.some.inj h
  exact ⟨rfl, plain_ok (by decide), rfl, (fun h => by cases h), fun s args h1 h2 => pm_T_of hl cl_all ar_all ik_X1_search ck_X1_search s args h1 h2⟩
theorem ok_10 (hl : l.stackTraces = false) : okMj l n0 sa sv 10 := by
  intro C nL h
  obtain ⟨rfl, rfl⟩ : C_X1_holdsAll = C ∧ 6 = nL := Prod.mk.injEq _ _ _ _ ▸ Option.some.inj h
  exact ⟨rfl, plain_ok (by decide), rfl, (fun h => by cases h), fun s args h1 h2 => pm_T_of hl cl_all ar_all ik_X1_holdsAll ck_X1_holdsAll s args h1 h2⟩
theorem ok_11 (hl : l.stackTraces = false) : okMj l n0 sa sv 11 := by
  intro C nL h
  obtain ⟨rfl, rfl⟩ : C_X1_addPlaces = C ∧ 4 = nL := Prod.mk.injEq _ _ _ _ ▸ Option.some.inj h
  exact ⟨rfl, plain_ok (by decide), rfl, (fun h => by cases h), fun s args h1 h2 => pm_T_of hl cl_all ar_all ik_X1_addPlaces ck_X1_addPlaces s args h1 h2⟩
theorem ok_12 (hl : l.stackTraces = false) : okMj l n0 sa sv 12 := by
  intro C nL h
  obtain ⟨rfl, rfl⟩ : C_X2_init = C ∧ 1 = nL := Prod.mk.injEq _ _ _ _ ▸ Option.some.inj h
  exact ⟨rfl, plain_ok (by decide), rfl, fun _ => rfl, fun s args h1 h2 => pm_T_of hl cl_all ar_all ik_X2_init ck_X2_init s args h1 h2⟩
theorem ok_13 (hl : l.stackTraces = false) : okMj l n0 sa sv 13 := by
  intro C nL h
  obtain ⟨rfl, rfl⟩ : C_X2_passHours = C ∧ 5 = nL := Prod.mk.injEq _ _ _ _ ▸ Option.some.inj h
  exact ⟨rfl, plain_ok (by decide), rfl, (fun h => by cases h), fun s args h1 h2 => pm_T_of hl cl_all ar_all ik_X2_passHours ck_X2_passHours s args h1 h2⟩
theorem ok_14 (hl : l.stackTraces = false) : okMj l n0 sa sv 14 := by
  intro C nL h
  obtain ⟨rfl, rfl⟩ : C_X2_passHour = C ∧ 5 = nL := Prod.mk.injEq _ _ _ _ ▸ Option.some.inj h
  exact ⟨rfl, plain_ok (by decide), rfl, (fun h => by cases h), fun s args h1 h2 => pm_T_of hl cl_all ar_all ik_X2_passHour ck_X2_passHour s args h1 h2⟩
theorem ok_15 (hl : l.stackTraces = false) : okMj l n0 sa sv 15 := by
  intro C nL h
  obtain ⟨rfl, rfl⟩ : C_X2_hurt = C ∧ 5 = nL := Prod.mk.injEq _ _ _ _ ▸ Option.some.inj h
  exact ⟨rfl, plain_ok (by decide), rfl, (fun h => by cases h), fun s args h1 h2 => pm_T_of hl cl_all ar_all ik_X2_hurt ck_X2_hurt s args h1 h2⟩
theorem ok_16 (hl : l.stackTraces = false) : okMj l n0 sa sv 16 := by
  intro C nL h
  obtain ⟨rfl, rfl⟩ : C_X2_wantsToGo = C ∧ 4 = nL := Prod.mk.injEq _ _ _ _ ▸ Option.some.inj h
  exact ⟨rfl, plain_ok (by decide), rfl, (fun h => by cases h), fun s args h1 h2 => pm_T_of hl cl_all ar_all ik_X2_wantsToGo ck_X2_wantsToGo s args h1 h2⟩
theorem ok_17 (hl : l.stackTraces = false) : okMj l n0 sa sv 17 := by
  intro C nL h
  obtain ⟨rfl, rfl⟩ : C_X2_go = C ∧ 5 = nL := Prod.mk.injEq _ _ _ _ ▸ Option.some.inj h
  exact ⟨rfl, plain_ok (by decide), rfl, (fun h => by cases h), fun s args h1 h2 => pm_T_of hl cl_all ar_all ik_X2_go ck_X2_go s args h1 h2⟩
theorem ok_18 (hl : l.stackTraces = false) : okMj l n0 sa sv 18 := by
  intro C nL h
  obtain ⟨rfl, rfl⟩ : C_X2_setValues = C ∧ 4 = nL := Prod.mk.injEq _ _ _ _ ▸ Option.some.inj h
  exact ⟨rfl, plain_ok (by decide), rfl, (fun h => by cases h), fun s args h1 h2 => pm_T_of hl cl_all ar_all ik_X2_setValues ck_X2_setValues s args h1 h2⟩
theorem ok_19 (hl : l.stackTraces = false) : okMj l n0 sa sv 19 := by
  intro C nL h
  obtain ⟨rfl, rfl⟩ : C_X3_init = C ∧ 1 = nL := Prod.mk.injEq _ _ _ _ ▸ Option.some.inj h
  exact ⟨rfl, plain_ok (by decide), rfl, fun _ => rfl, fun s args h1 h2 => pm_T_of hl cl_all ar_all ik_X3_init ck_X3_init s args h1 h2⟩
theorem ok_20 (hl : l.stackTraces = false) : okMj l n0 sa sv 20 := by
  intro C nL h
  obtain ⟨rfl, rfl⟩ : C_X3_clear = C ∧ 1 = nL := Prod.mk.injEq _ _ _ _ ▸ Option.some.inj h
  exact ⟨rfl, plain_ok (by decide), rfl, (fun h => by cases h), fun s args h1 h2 => pm_T_of hl cl_all ar_all ik_X3_clear ck_X3_clear s args h1 h2⟩
theorem ok_21 (hl : l.stackTraces = false) : okMj l n0 sa sv 21 := by
  intro C nL h
  obtain ⟨rfl, rfl⟩ : C_X3_cells = C ∧ 1 = nL := Prod.mk.injEq _ _ _ _ ▸ Option.some.inj h
  exact ⟨rfl, plain_ok (by decide), rfl, (fun h => by cases h), fun s args h1 h2 => pm_T_of hl cl_all ar_all ik_X3_cells ck_X3_cells s args h1 h2⟩
theorem ok_22 (hl : l.stackTraces = false) : okMj l n0 sa sv 22 := by
  intro C nL h
  obtain ⟨rfl, rfl⟩ : C_X3_lightOf = C ∧ 2 = nL := Prod.mk.injEq _ _ _ _ ▸ Option.some.inj h
  exact ⟨rfl, plain_ok (by decide), rfl, (fun h => by cases h), fun s args h1 h2 => pm_T_of hl cl_all ar_all ik_X3_lightOf ck_X3_lightOf s args h1 h2⟩
theorem ok_23 (hl : l.stackTraces = false) : okMj l n0 sa sv 23 := by
  intro C nL h
  obtain ⟨rfl, rfl⟩ : C_X3_isDull = C ∧ 2 = nL := Prod.mk.injEq _ _ _ _ ▸ Option.some.inj h
  exact ⟨rfl, plain_ok (by decide), rfl, (fun h => by cases h), fun s args h1 h2 => pm_T_of hl cl_all ar_all ik_X3_isDull ck_X3_isDull s args h1 h2⟩
theorem ok_24 (hl : l.stackTraces = false) : okMj l n0 sa sv 24 := by
  intro C nL h
  obtain ⟨rfl, rfl⟩ : C_X3_stepOf = C ∧ 4 = nL := Prod.mk.injEq _ _ _ _ ▸ Option.some.inj h
  exact ⟨rfl, plain_ok (by decide), rfl, (fun h => by cases h), fun s args h1 h2 => pm_T_of hl cl_all ar_all ik_X3_stepOf ck_X3_stepOf s args h1 h2⟩
theorem ok_25 (hl : l.stackTraces = false) : okMj l n0 sa sv 25 := by
  intro C nL h
  obtain ⟨rfl, rfl⟩ : C_X3_seatsAt = C ∧ 4 = nL := Prod.mk.injEq _ _ _ _ ▸ Option.some.inj h
  exact ⟨rfl, plain_ok (by decide), rfl, (fun h => by cases h), fun s args h1 h2 => pm_T_of hl cl_all ar_all ik_X3_seatsAt ck_X3_seatsAt s args h1 h2⟩
theorem ok_26 (hl : l.stackTraces = false) : okMj l n0 sa sv 26 := by
  intro C nL h
  obtain ⟨rfl, rfl⟩ : C_X3_isWall = C ∧ 2 = nL := Prod.mk.injEq _ _ _ _ ▸ Option.some.inj h
  exact ⟨rfl, plain_ok (by decide), rfl, (fun h => by cases h), fun s args h1 h2 => pm_T_of hl cl_all ar_all ik_X3_isWall ck_X3_isWall s args h1 h2⟩
theorem ok_27 (hl : l.stackTraces = false) : okMj l n0 sa sv 27 := by
  intro C nL h
  obtain ⟨rfl, rfl⟩ : C_X3_isStart = C ∧ 3 = nL := Prod.mk.injEq _ _ _ _ ▸ Option.some.inj h
  exact ⟨rfl, plain_ok (by decide), rfl, (fun h => by cases h), fun s args h1 h2 => pm_T_of hl cl_all ar_all ik_X3_isStart ck_X3_isStart s args h1 h2⟩
theorem ok_28 (hl : l.stackTraces = false) : okMj l n0 sa sv 28 := by
  intro C nL h
  obtain ⟨rfl, rfl⟩ : C_X3_beside = C ∧ 4 = nL := Prod.mk.injEq _ _ _ _ ▸ Option.some.inj h
  exact ⟨rfl, plain_ok (by decide), rfl, (fun h => by cases h), fun s args h1 h2 => pm_T_of hl cl_all ar_all ik_X3_beside ck_X3_beside s args h1 h2⟩
theorem ok_29 (hl : l.stackTraces = false) : okMj l n0 sa sv 29 := by
  intro C nL h
  obtain ⟨rfl, rfl⟩ : C_X4_init = C ∧ 1 = nL := Prod.mk.injEq _ _ _ _ ▸ Option.some.inj h
  exact ⟨rfl, plain_ok (by decide), rfl, fun _ => rfl, fun s args h1 h2 => pm_T_of hl cl_all ar_all ik_X4_init ck_X4_init s args h1 h2⟩
theorem ok_30 (hl : l.stackTraces = false) : okMj l n0 sa sv 30 := by
  intro C nL h
  obtain ⟨rfl, rfl⟩ : C_X4_read = C ∧ 6 = nL := Prod.mk.injEq _ _ _ _ ▸ Option.some.inj h
  exact ⟨rfl, plain_ok (by decide), rfl, (fun h => by cases h), fun s args h1 h2 => pm_T_of hl cl_all ar_all ik_X4_read ck_X4_read s args h1 h2⟩
theorem ok_31 (hl : l.stackTraces = false) : okMj l n0 sa sv 31 := by
  intro C nL h
  obtain ⟨rfl, rfl⟩ : C_X4_readTable = C ∧ 4 = nL := Prod.mk.injEq _ _ _ _ ▸ Option.some.inj h
  exact ⟨rfl, plain_ok (by decide), rfl, (fun h => by cases h), fun s args h1 h2 => pm_T_of hl cl_all ar_all ik_X4_readTable ck_X4_readTable s args h1 h2⟩
theorem ok_32 (hl : l.stackTraces = false) : okMj l n0 sa sv 32 := by
  intro C nL h
  obtain ⟨rfl, rfl⟩ : C_X4_sideFault = C ∧ 1 = nL := Prod.mk.injEq _ _ _ _ ▸ Option.some.inj h
  exact ⟨rfl, plain_ok (by decide), rfl, (fun h => by cases h), fun s args h1 h2 => pm_T_of hl cl_all ar_all ik_X4_sideFault ck_X4_sideFault s args h1 h2⟩
theorem ok_33 (hl : l.stackTraces = false) : okMj l n0 sa sv 33 := by
  intro C nL h
  obtain ⟨rfl, rfl⟩ : C_X4_readStop = C ∧ 1 = nL := Prod.mk.injEq _ _ _ _ ▸ Option.some.inj h
  exact ⟨rfl, plain_ok (by decide), rfl, (fun h => by cases h), fun s args h1 h2 => pm_T_of hl cl_all ar_all ik_X4_readStop ck_X4_readStop s args h1 h2⟩
theorem ok_34 (hl : l.stackTraces = false) : okMj l n0 sa sv 34 := by
  intro C nL h
  obtain ⟨rfl, rfl⟩ : C_X4_readLine = C ∧ 3 = nL := Prod.mk.injEq _ _ _ _ ▸ Option.some.inj h
  exact ⟨rfl, plain_ok (by decide), rfl, (fun h => by cases h), fun s args h1 h2 => pm_T_of hl cl_all ar_all ik_X4_readLine ck_X4_readLine s args h1 h2⟩
theorem ok_35 (hl : l.stackTraces = false) : okMj l n0 sa sv 35 := by
  intro C nL h
  obtain ⟨rfl, rfl⟩ : C_X4_cellFault = C ∧ 2 = nL := Prod.mk.injEq _ _ _ _ ▸ Option.some.inj h
  exact ⟨rfl, plain_ok (by decide), rfl, (fun h => by cases h), fun s args h1 h2 => pm_T_of hl cl_all ar_all ik_X4_cellFault ck_X4_cellFault s args h1 h2⟩
theorem ok_36 (hl : l.stackTraces = false) : okMj l n0 sa sv 36 := by
  intro C nL h
  obtain ⟨rfl, rfl⟩ : C_X4_readWall = C ∧ 3 = nL := Prod.mk.injEq _ _ _ _ ▸ Option.some.inj h
  exact ⟨rfl, plain_ok (by decide), rfl, (fun h => by cases h), fun s args h1 h2 => pm_T_of hl cl_all ar_all ik_X4_readWall ck_X4_readWall s args h1 h2⟩
theorem ok_37 (hl : l.stackTraces = false) : okMj l n0 sa sv 37 := by
  intro C nL h
  obtain ⟨rfl, rfl⟩ : C_X4_readFigure = C ∧ 5 = nL := Prod.mk.injEq _ _ _ _ ▸ Option.some.inj h
  exact ⟨rfl, plain_ok (by decide), rfl, (fun h => by cases h), fun s args h1 h2 => pm_T_of hl cl_all ar_all ik_X4_readFigure ck_X4_readFigure s args h1 h2⟩
theorem ok_38 (hl : l.stackTraces = false) : okMj l n0 sa sv 38 := by
  intro C nL h
  obtain ⟨rfl, rfl⟩ : C_X4_readSeat = C ∧ 3 = nL := Prod.mk.injEq _ _ _ _ ▸ Option.some.inj h
  exact ⟨rfl, plain_ok (by decide), rfl, (fun h => by cases h), fun s args h1 h2 => pm_T_of hl cl_all ar_all ik_X4_readSeat ck_X4_readSeat s args h1 h2⟩
theorem ok_39 (hl : l.stackTraces = false) : okMj l n0 sa sv 39 := by
  intro C nL h
  obtain ⟨rfl, rfl⟩ : C_X4_readLight = C ∧ 4 = nL := Prod.mk.injEq _ _ _ _ ▸ Option.some.inj h
  exact ⟨rfl, plain_ok (by decide), rfl, (fun h => by cases h), fun s args h1 h2 => pm_T_of hl cl_all ar_all ik_X4_readLight ck_X4_readLight s args h1 h2⟩
theorem ok_40 (hl : l.stackTraces = false) : okMj l n0 sa sv 40 := by
  intro C nL h
  obtain ⟨rfl, rfl⟩ : C_X4_readRow = C ∧ 6 = nL := Prod.mk.injEq _ _ _ _ ▸ Option.some.inj h
  exact ⟨rfl, plain_ok (by decide), rfl, (fun h => by cases h), fun s args h1 h2 => pm_T_of hl cl_all ar_all ik_X4_readRow ck_X4_readRow s args h1 h2⟩
theorem ok_41 (hl : l.stackTraces = false) : okMj l n0 sa sv 41 := by
  intro C nL h
  obtain ⟨rfl, rfl⟩ : C_X4_readDull = C ∧ 2 = nL := Prod.mk.injEq _ _ _ _ ▸ Option.some.inj h
  exact ⟨rfl, plain_ok (by decide), rfl, (fun h => by cases h), fun s args h1 h2 => pm_T_of hl cl_all ar_all ik_X4_readDull ck_X4_readDull s args h1 h2⟩
theorem ok_42 (hl : l.stackTraces = false) : okMj l n0 sa sv 42 := by
  intro C nL h
  obtain ⟨rfl, rfl⟩ : C_X5_init = C ∧ 1 = nL := Prod.mk.injEq _ _ _ _ ▸ Option.some.inj h
  exact ⟨rfl, plain_ok (by decide), rfl, fun _ => rfl, fun s args h1 h2 => pm_T_of hl cl_all ar_all ik_X5_init ck_X5_init s args h1 h2⟩
theorem ok_43 (hl : l.stackTraces = false) : okMj l n0 sa sv 43 := by
  intro C nL h
  obtain ⟨rfl, rfl⟩ : C_X5_clear = C ∧ 1 = nL := Prod.mk.injEq _ _ _ _ ▸ Option.some.inj h
  exact ⟨rfl, plain_ok (by decide), rfl, (fun h => by cases h), fun s args h1 h2 => pm_T_of hl cl_all ar_all ik_X5_clear ck_X5_clear s args h1 h2⟩
theorem ok_44 (hl : l.stackTraces = false) : okMj l n0 sa sv 44 := by
  intro C nL h
  obtain ⟨rfl, rfl⟩ : C_X5_isTold = C ∧ 1 = nL := Prod.mk.injEq _ _ _ _ ▸ Option.some.inj h
  exact ⟨rfl, plain_ok (by decide), rfl, (fun h => by cases h), fun s args h1 h2 => pm_T_of hl cl_all ar_all ik_X5_isTold ck_X5_isTold s args h1 h2⟩
theorem ok_45 (hl : l.stackTraces = false) : okMj l n0 sa sv 45 := by
  intro C nL h
  obtain ⟨rfl, rfl⟩ : C_X5_add = C ∧ 2 = nL := Prod.mk.injEq _ _ _ _ ▸ Option.some.inj h
  exact ⟨rfl, plain_ok (by decide), rfl, (fun h => by cases h), fun s args h1 h2 => pm_T_of hl cl_all ar_all ik_X5_add ck_X5_add s args h1 h2⟩
theorem ok_46 (hl : l.stackTraces = false) : okMj l n0 sa sv 46 := by
  intro C nL h
  obtain ⟨rfl, rfl⟩ : C_X5_value = C ∧ 5 = nL := Prod.mk.injEq _ _ _ _ ▸ Option.some.inj h
  exact ⟨rfl, plain_ok (by decide), rfl, (fun h => by cases h), fun s args h1 h2 => pm_T_of hl cl_all ar_all ik_X5_value ck_X5_value s args h1 h2⟩
theorem ok_47 (hl : l.stackTraces = false) : okMj l n0 sa sv 47 := by
  intro C nL h
  obtain ⟨rfl, rfl⟩ : C_X5_join = C ∧ 3 = nL := Prod.mk.injEq _ _ _ _ ▸ Option.some.inj h
  exact ⟨rfl, plain_ok (by decide), rfl, (fun h => by cases h), fun s args h1 h2 => pm_T_of hl cl_all ar_all ik_X5_join ck_X5_join s args h1 h2⟩
theorem ok_48 (hl : l.stackTraces = false) : okMj l n0 sa sv 48 := by
  intro C nL h
  obtain ⟨rfl, rfl⟩ : C_X6_init = C ∧ 1 = nL := Prod.mk.injEq _ _ _ _ ▸ Option.some.inj h
  exact ⟨rfl, plain_ok (by decide), rfl, fun _ => rfl, fun s args h1 h2 => pm_T_of hl cl_all ar_all ik_X6_init ck_X6_init s args h1 h2⟩
theorem ok_49 (hl : l.stackTraces = false) : okMj l n0 sa sv 49 := by
  intro C nL h
  obtain ⟨rfl, rfl⟩ : C_X6_read = C ∧ 6 = nL := Prod.mk.injEq _ _ _ _ ▸ Option.some.inj h
  exact ⟨rfl, plain_ok (by decide), rfl, (fun h => by cases h), fun s args h1 h2 => pm_T_of hl cl_all ar_all ik_X6_read ck_X6_read s args h1 h2⟩
theorem ok_50 (hl : l.stackTraces = false) : okMj l n0 sa sv 50 := by
  intro C nL h
  obtain ⟨rfl, rfl⟩ : C_X6_isEnd = C ∧ 2 = nL := Prod.mk.injEq _ _ _ _ ▸ Option.some.inj h
  exact ⟨rfl, plain_ok (by decide), rfl, (fun h => by cases h), fun s args h1 h2 => pm_T_of hl cl_all ar_all ik_X6_isEnd ck_X6_isEnd s args h1 h2⟩
theorem ok_51 (hl : l.stackTraces = false) : okMj l n0 sa sv 51 := by
  intro C nL h
  obtain ⟨rfl, rfl⟩ : C_X6_beginPart = C ∧ 2 = nL := Prod.mk.injEq _ _ _ _ ▸ Option.some.inj h
  exact ⟨rfl, plain_ok (by decide), rfl, (fun h => by cases h), fun s args h1 h2 => pm_T_of hl cl_all ar_all ik_X6_beginPart ck_X6_beginPart s args h1 h2⟩
theorem ok_52 (hl : l.stackTraces = false) : okMj l n0 sa sv 52 := by
  intro C nL h
  obtain ⟨rfl, rfl⟩ : C_X6_readPart = C ∧ 5 = nL := Prod.mk.injEq _ _ _ _ ▸ Option.some.inj h
  exact ⟨rfl, plain_ok (by decide), rfl, (fun h => by cases h), fun s args h1 h2 => pm_T_of hl cl_all ar_all ik_X6_readPart ck_X6_readPart s args h1 h2⟩
theorem ok_53 (hl : l.stackTraces = false) : okMj l n0 sa sv 53 := by
  intro C nL h
  obtain ⟨rfl, rfl⟩ : C_X6_readNumber = C ∧ 3 = nL := Prod.mk.injEq _ _ _ _ ▸ Option.some.inj h
  exact ⟨rfl, plain_ok (by decide), rfl, (fun h => by cases h), fun s args h1 h2 => pm_T_of hl cl_all ar_all ik_X6_readNumber ck_X6_readNumber s args h1 h2⟩
theorem ok_54 (hl : l.stackTraces = false) : okMj l n0 sa sv 54 := by
  intro C nL h
  obtain ⟨rfl, rfl⟩ : C_X6_readWord = C ∧ 5 = nL := Prod.mk.injEq _ _ _ _ ▸ Option.some.inj h
  exact ⟨rfl, plain_ok (by decide), rfl, (fun h => by cases h), fun s args h1 h2 => pm_T_of hl cl_all ar_all ik_X6_readWord ck_X6_readWord s args h1 h2⟩
theorem ok_55 (hl : l.stackTraces = false) : okMj l n0 sa sv 55 := by
  intro C nL h
  obtain ⟨rfl, rfl⟩ : C_X6_valueOf = C ∧ 2 = nL := Prod.mk.injEq _ _ _ _ ▸ Option.some.inj h
  exact ⟨rfl, plain_ok (by decide), rfl, (fun h => by cases h), fun s args h1 h2 => pm_T_of hl cl_all ar_all ik_X6_valueOf ck_X6_valueOf s args h1 h2⟩
theorem ok_56 (hl : l.stackTraces = false) : okMj l n0 sa sv 56 := by
  intro C nL h
  obtain ⟨rfl, rfl⟩ : C_X6_readOperator = C ∧ 6 = nL := Prod.mk.injEq _ _ _ _ ▸ Option.some.inj h
  exact ⟨rfl, plain_ok (by decide), rfl, (fun h => by cases h), fun s args h1 h2 => pm_T_of hl cl_all ar_all ik_X6_readOperator ck_X6_readOperator s args h1 h2⟩
theorem ok_57 (hl : l.stackTraces = false) : okMj l n0 sa sv 57 := by
  intro C nL h
  obtain ⟨rfl, rfl⟩ : C_X6_operatorOf = C ∧ 1 = nL := Prod.mk.injEq _ _ _ _ ▸ Option.some.inj h
  exact ⟨rfl, plain_ok (by decide), rfl, (fun h => by cases h), fun s args h1 h2 => pm_T_of hl cl_all ar_all ik_X6_operatorOf ck_X6_operatorOf s args h1 h2⟩
theorem ok_58 (hl : l.stackTraces = false) : okMj l n0 sa sv 58 := by
  intro C nL h
  obtain ⟨rfl, rfl⟩ : C_X6_rankOf = C ∧ 1 = nL := Prod.mk.injEq _ _ _ _ ▸ Option.some.inj h
  exact ⟨rfl, plain_ok (by decide), rfl, (fun h => by cases h), fun s args h1 h2 => pm_T_of hl cl_all ar_all ik_X6_rankOf ck_X6_rankOf s args h1 h2⟩
theorem ok_59 (hl : l.stackTraces = false) : okMj l n0 sa sv 59 := by
  intro C nL h
  obtain ⟨rfl, rfl⟩ : C_X6_push = C ∧ 2 = nL := Prod.mk.injEq _ _ _ _ ▸ Option.some.inj h
  exact ⟨rfl, plain_ok (by decide), rfl, (fun h => by cases h), fun s args h1 h2 => pm_T_of hl cl_all ar_all ik_X6_push ck_X6_push s args h1 h2⟩
theorem ok_60 (hl : l.stackTraces = false) : okMj l n0 sa sv 60 := by
  intro C nL h
  obtain ⟨rfl, rfl⟩ : C_X6_release = C ∧ 3 = nL := Prod.mk.injEq _ _ _ _ ▸ Option.some.inj h
  exact ⟨rfl, plain_ok (by decide), rfl, (fun h => by cases h), fun s args h1 h2 => pm_T_of hl cl_all ar_all ik_X6_release ck_X6_release s args h1 h2⟩
theorem ok_61 (hl : l.stackTraces = false) : okMj l n0 sa sv 61 := by
  intro C nL h
  obtain ⟨rfl, rfl⟩ : C_X7_init = C ∧ 1 = nL := Prod.mk.injEq _ _ _ _ ▸ Option.some.inj h
  exact ⟨rfl, plain_ok (by decide), rfl, fun _ => rfl, fun s args h1 h2 => pm_T_of hl cl_all ar_all ik_X7_init ck_X7_init s args h1 h2⟩
theorem ok_62 (hl : l.stackTraces = false) : okMj l n0 sa sv 62 := by
  intro C nL h
  obtain ⟨rfl, rfl⟩ : C_X7_place = C ∧ 6 = nL := Prod.mk.injEq _ _ _ _ ▸ Option.some.inj h
  exact ⟨rfl, plain_ok (by decide), rfl, (fun h => by cases h), fun s args h1 h2 => pm_T_of hl cl_all ar_all ik_X7_place ck_X7_place s args h1 h2⟩
theorem ok_63 (hl : l.stackTraces = false) : okMj l n0 sa sv 63 := by
  intro C nL h
  obtain ⟨rfl, rfl⟩ : C_X7_measureAll = C ∧ 6 = nL := Prod.mk.injEq _ _ _ _ ▸ Option.some.inj h
  exact ⟨rfl, plain_ok (by decide), rfl, (fun h => by cases h), fun s args h1 h2 => pm_T_of hl cl_all ar_all ik_X7_measureAll ck_X7_measureAll s args h1 h2⟩
theorem ok_64 (hl : l.stackTraces = false) : okMj l n0 sa sv 64 := by
  intro C nL h
  obtain ⟨rfl, rfl⟩ : C_X7_bestFrom = C ∧ 6 = nL := Prod.mk.injEq _ _ _ _ ▸ Option.some.inj h
  exact ⟨rfl, plain_ok (by decide), rfl, (fun h => by cases h), fun s args h1 h2 => pm_T_of hl cl_all ar_all ik_X7_bestFrom ck_X7_bestFrom s args h1 h2⟩
theorem ok_65 (hl : l.stackTraces = false) : okMj l n0 sa sv 65 := by
  intro C nL h
  obtain ⟨rfl, rfl⟩ : C_X7_worthAt = C ∧ 5 = nL := Prod.mk.injEq _ _ _ _ ▸ Option.some.inj h
  exact ⟨rfl, plain_ok (by decide), rfl, (fun h => by cases h), fun s args h1 h2 => pm_T_of hl cl_all ar_all ik_X7_worthAt ck_X7_worthAt s args h1 h2⟩
theorem ok_66 (hl : l.stackTraces = false) : okMj l n0 sa sv 66 := by
  intro C nL h
  obtain ⟨rfl, rfl⟩ : C_X7_choose = C ∧ 5 = nL := Prod.mk.injEq _ _ _ _ ▸ Option.some.inj h
  exact ⟨rfl, plain_ok (by decide), rfl, (fun h => by cases h), fun s args h1 h2 => pm_T_of hl cl_all ar_all ik_X7_choose ck_X7_choose s args h1 h2⟩
theorem ok_67 (hl : l.stackTraces = false) : okMj l n0 sa sv 67 := by
  intro C nL h
  obtain ⟨rfl, rfl⟩ : C_X8_init = C ∧ 1 = nL := Prod.mk.injEq _ _ _ _ ▸ Option.some.inj h
  exact ⟨rfl, plain_ok (by decide), rfl, fun _ => rfl, fun s args h1 h2 => pm_T_of hl cl_all ar_all ik_X8_init ck_X8_init s args h1 h2⟩
theorem ok_68 (hl : l.stackTraces = false) : okMj l n0 sa sv 68 := by
  intro C nL h
  obtain ⟨rfl, rfl⟩ : C_X8_begin = C ∧ 2 = nL := Prod.mk.injEq _ _ _ _ ▸ Option.some.inj h
  exact ⟨rfl, plain_ok (by decide), rfl, (fun h => by cases h), fun s args h1 h2 => pm_T_of hl cl_all ar_all ik_X8_begin ck_X8_begin s args h1 h2⟩
theorem ok_69 (hl : l.stackTraces = false) : okMj l n0 sa sv 69 := by
  intro C nL h
  obtain ⟨rfl, rfl⟩ : C_X8_copyFrom = C ∧ 2 = nL := Prod.mk.injEq _ _ _ _ ▸ Option.some.inj h
  exact ⟨rfl, plain_ok (by decide), rfl, (fun h => by cases h), fun s args h1 h2 => pm_T_of hl cl_all ar_all ik_X8_copyFrom ck_X8_copyFrom s args h1 h2⟩
theorem ok_70 (hl : l.stackTraces = false) : okMj l n0 sa sv 70 := by
  intro C nL h
  obtain ⟨rfl, rfl⟩ : C_X8_saveTo = C ∧ 3 = nL := Prod.mk.injEq _ _ _ _ ▸ Option.some.inj h
  exact ⟨rfl, plain_ok (by decide), rfl, (fun h => by cases h), fun s args h1 h2 => pm_T_of hl cl_all ar_all ik_X8_saveTo ck_X8_saveTo s args h1 h2⟩
theorem ok_71 (hl : l.stackTraces = false) : okMj l n0 sa sv 71 := by
  intro C nL h
  obtain ⟨rfl, rfl⟩ : C_X8_loadFrom = C ∧ 3 = nL := Prod.mk.injEq _ _ _ _ ▸ Option.some.inj h
  exact ⟨rfl, plain_ok (by decide), rfl, (fun h => by cases h), fun s args h1 h2 => pm_T_of hl cl_all ar_all ik_X8_loadFrom ck_X8_loadFrom s args h1 h2⟩
theorem ok_72 (hl : l.stackTraces = false) : okMj l n0 sa sv 72 := by
  intro C nL h
  obtain ⟨rfl, rfl⟩ : C_X8_isWall = C ∧ 2 = nL := Prod.mk.injEq _ _ _ _ ▸ Option.some.inj h
  exact ⟨rfl, plain_ok (by decide), rfl, (fun h => by cases h), fun s args h1 h2 => pm_T_of hl cl_all ar_all ik_X8_isWall ck_X8_isWall s args h1 h2⟩
theorem ok_73 (hl : l.stackTraces = false) : okMj l n0 sa sv 73 := by
  intro C nL h
  obtain ⟨rfl, rfl⟩ : C_X8_figuresAt = C ∧ 4 = nL := Prod.mk.injEq _ _ _ _ ▸ Option.some.inj h
  exact ⟨rfl, plain_ok (by decide), rfl, (fun h => by cases h), fun s args h1 h2 => pm_T_of hl cl_all ar_all ik_X8_figuresAt ck_X8_figuresAt s args h1 h2⟩
theorem ok_74 (hl : l.stackTraces = false) : okMj l n0 sa sv 74 := by
  intro C nL h
  obtain ⟨rfl, rfl⟩ : C_X8_othersWith = C ∧ 4 = nL := Prod.mk.injEq _ _ _ _ ▸ Option.some.inj h
  exact ⟨rfl, plain_ok (by decide), rfl, (fun h => by cases h), fun s args h1 h2 => pm_T_of hl cl_all ar_all ik_X8_othersWith ck_X8_othersWith s args h1 h2⟩
theorem ok_75 (hl : l.stackTraces = false) : okMj l n0 sa sv 75 := by
  intro C nL h
  obtain ⟨rfl, rfl⟩ : C_X8_aloneBits = C ∧ 3 = nL := Prod.mk.injEq _ _ _ _ ▸ Option.some.inj h
  exact ⟨rfl, plain_ok (by decide), rfl, (fun h => by cases h), fun s args h1 h2 => pm_T_of hl cl_all ar_all ik_X8_aloneBits ck_X8_aloneBits s args h1 h2⟩
theorem ok_76 (hl : l.stackTraces = false) : okMj l n0 sa sv 76 := by
  intro C nL h
  obtain ⟨rfl, rfl⟩ : C_X8_placedAsBits = C ∧ 4 = nL := Prod.mk.injEq _ _ _ _ ▸ Option.some.inj h
  exact ⟨rfl, plain_ok (by decide), rfl, (fun h => by cases h), fun s args h1 h2 => pm_T_of hl cl_all ar_all ik_X8_placedAsBits ck_X8_placedAsBits s args h1 h2⟩
theorem ok_77 (hl : l.stackTraces = false) : okMj l n0 sa sv 77 := by
  intro C nL h
  obtain ⟨rfl, rfl⟩ : C_X8_isPlacedAs = C ∧ 2 = nL := Prod.mk.injEq _ _ _ _ ▸ Option.some.inj h
  exact ⟨rfl, plain_ok (by decide), rfl, (fun h => by cases h), fun s args h1 h2 => pm_T_of hl cl_all ar_all ik_X8_isPlacedAs ck_X8_isPlacedAs s args h1 h2⟩
theorem ok_78 (hl : l.stackTraces = false) : okMj l n0 sa sv 78 := by
  intro C nL h
  obtain ⟨rfl, rfl⟩ : C_X8_places = C ∧ 4 = nL := Prod.mk.injEq _ _ _ _ ▸ Option.some.inj h
  exact ⟨rfl, plain_ok (by decide), rfl, (fun h => by cases h), fun s args h1 h2 => pm_T_of hl cl_all ar_all ik_X8_places ck_X8_places s args h1 h2⟩
theorem ok_79 (hl : l.stackTraces = false) : okMj l n0 sa sv 79 := by
  intro C nL h
  obtain ⟨rfl, rfl⟩ : C_X8_soreOfAll = C ∧ 3 = nL := Prod.mk.injEq _ _ _ _ ▸ Option.some.inj h
  exact ⟨rfl, plain_ok (by decide), rfl, (fun h => by cases h), fun s args h1 h2 => pm_T_of hl cl_all ar_all ik_X8_soreOfAll ck_X8_soreOfAll s args h1 h2⟩
theorem ok_80 (hl : l.stackTraces = false) : okMj l n0 sa sv 80 := by
  intro C nL h
  obtain ⟨rfl, rfl⟩ : C_X8_heldBits = C ∧ 3 = nL := Prod.mk.injEq _ _ _ _ ▸ Option.some.inj h
  exact ⟨rfl, plain_ok (by decide), rfl, (fun h => by cases h), fun s args h1 h2 => pm_T_of hl cl_all ar_all ik_X8_heldBits ck_X8_heldBits s args h1 h2⟩
theorem ok_81 (hl : l.stackTraces = false) : okMj l n0 sa sv 81 := by
  intro C nL h
  obtain ⟨rfl, rfl⟩ : C_X9_init = C ∧ 1 = nL := Prod.mk.injEq _ _ _ _ ▸ Option.some.inj h
  exact ⟨rfl, plain_ok (by decide), rfl, fun _ => rfl, fun s args h1 h2 => pm_T_of hl cl_all ar_all ik_X9_init ck_X9_init s args h1 h2⟩
theorem ok_82 (hl : l.stackTraces = false) : okMj l n0 sa sv 82 := by
  intro C nL h
  obtain ⟨rfl, rfl⟩ : C_X9_add = C ∧ 3 = nL := Prod.mk.injEq _ _ _ _ ▸ Option.some.inj h
  exact ⟨rfl, plain_ok (by decide), rfl, (fun h => by cases h), fun s args h1 h2 => pm_T_of hl cl_all ar_all ik_X9_add ck_X9_add s args h1 h2⟩
theorem ok_83 (hl : l.stackTraces = false) : okMj l n0 sa sv 83 := by
  intro C nL h
  obtain ⟨rfl, rfl⟩ : C_X9_begin = C ∧ 2 = nL := Prod.mk.injEq _ _ _ _ ▸ Option.some.inj h
  exact ⟨rfl, plain_ok (by decide), rfl, (fun h => by cases h), fun s args h1 h2 => pm_T_of hl cl_all ar_all ik_X9_begin ck_X9_begin s args h1 h2⟩
theorem ok_84 (hl : l.stackTraces = false) : okMj l n0 sa sv 84 := by
  intro C nL h
  obtain ⟨rfl, rfl⟩ : C_X9_advance = C ∧ 2 = nL := Prod.mk.injEq _ _ _ _ ▸ Option.some.inj h
  exact ⟨rfl, plain_ok (by decide), rfl, (fun h => by cases h), fun s args h1 h2 => pm_T_of hl cl_all ar_all ik_X9_advance ck_X9_advance s args h1 h2⟩
theorem ok_85 (hl : l.stackTraces = false) : okMj l n0 sa sv 85 := by
  intro C nL h
  obtain ⟨rfl, rfl⟩ : C_X9_readNumber = C ∧ 1 = nL := Prod.mk.injEq _ _ _ _ ▸ Option.some.inj h
  exact ⟨rfl, plain_ok (by decide), rfl, (fun h => by cases h), fun s args h1 h2 => pm_T_of hl cl_all ar_all ik_X9_readNumber ck_X9_readNumber s args h1 h2⟩
theorem ok_86 (hl : l.stackTraces = false) : okMj l n0 sa sv 86 := by
  intro C nL h
  obtain ⟨rfl, rfl⟩ : C_X9_isLetter = C ∧ 1 = nL := Prod.mk.injEq _ _ _ _ ▸ Option.some.inj h
  exact ⟨rfl, plain_ok (by decide), rfl, (fun h => by cases h), fun s args h1 h2 => pm_T_of hl cl_all ar_all ik_X9_isLetter ck_X9_isLetter s args h1 h2⟩
theorem ok_87 (hl : l.stackTraces = false) : okMj l n0 sa sv 87 := by
  intro C nL h
  obtain ⟨rfl, rfl⟩ : C_X9_isDigit = C ∧ 1 = nL := Prod.mk.injEq _ _ _ _ ▸ Option.some.inj h
  exact ⟨rfl, plain_ok (by decide), rfl, (fun h => by cases h), fun s args h1 h2 => pm_T_of hl cl_all ar_all ik_X9_isDigit ck_X9_isDigit s args h1 h2⟩
theorem ok_88 (hl : l.stackTraces = false) : okMj l n0 sa sv 88 := by
  intro C nL h
  obtain ⟨rfl, rfl⟩ : C_X9_hasManyDigits = C ∧ 1 = nL := Prod.mk.injEq _ _ _ _ ▸ Option.some.inj h
  exact ⟨rfl, plain_ok (by decide), rfl, (fun h => by cases h), fun s args h1 h2 => pm_T_of hl cl_all ar_all ik_X9_hasManyDigits ck_X9_hasManyDigits s args h1 h2⟩
theorem ok_89 (hl : l.stackTraces = false) : okMj l n0 sa sv 89 := by
  intro C nL h
  obtain ⟨rfl, rfl⟩ : C_X9_isNumber = C ∧ 2 = nL := Prod.mk.injEq _ _ _ _ ▸ Option.some.inj h
  exact ⟨rfl, plain_ok (by decide), rfl, (fun h => by cases h), fun s args h1 h2 => pm_T_of hl cl_all ar_all ik_X9_isNumber ck_X9_isNumber s args h1 h2⟩
theorem ok_90 (hl : l.stackTraces = false) : okMj l n0 sa sv 90 := by
  intro C nL h
  obtain ⟨rfl, rfl⟩ : C_X9_isSign = C ∧ 2 = nL := Prod.mk.injEq _ _ _ _ ▸ Option.some.inj h
  exact ⟨rfl, plain_ok (by decide), rfl, (fun h => by cases h), fun s args h1 h2 => pm_T_of hl cl_all ar_all ik_X9_isSign ck_X9_isSign s args h1 h2⟩
theorem ok_91 (hl : l.stackTraces = false) : okMj l n0 sa sv 91 := by
  intro C nL h
  obtain ⟨rfl, rfl⟩ : C_X9_sign = C ∧ 1 = nL := Prod.mk.injEq _ _ _ _ ▸ Option.some.inj h
  exact ⟨rfl, plain_ok (by decide), rfl, (fun h => by cases h), fun s args h1 h2 => pm_T_of hl cl_all ar_all ik_X9_sign ck_X9_sign s args h1 h2⟩
theorem ok_92 (hl : l.stackTraces = false) : okMj l n0 sa sv 92 := by
  intro C nL h
  obtain ⟨rfl, rfl⟩ : C_X9_isWord = C ∧ 3 = nL := Prod.mk.injEq _ _ _ _ ▸ Option.some.inj h
  exact ⟨rfl, plain_ok (by decide), rfl, (fun h => by cases h), fun s args h1 h2 => pm_T_of hl cl_all ar_all ik_X9_isWord ck_X9_isWord s args h1 h2⟩
theorem ok_93 (hl : l.stackTraces = false) : okMj l n0 sa sv 93 := by
  intro C nL h
  obtain ⟨rfl, rfl⟩ : C_X10_init = C ∧ 1 = nL := Prod.mk.injEq _ _ _ _ ▸ Option.some.inj h
  exact ⟨rfl, plain_ok (by decide), rfl, fun _ => rfl, fun s args h1 h2 => pm_T_of hl cl_all ar_all ik_X10_init ck_X10_init s args h1 h2⟩
theorem ok_94 (hl : l.stackTraces = false) : okMj l n0 sa sv 94 := by
  intro C nL h
  obtain ⟨rfl, rfl⟩ : C_X10_measure = C ∧ 9 = nL := Prod.mk.injEq _ _ _ _ ▸ Option.some.inj h
  exact ⟨rfl, plain_ok (by decide), rfl, (fun h => by cases h), fun s args h1 h2 => pm_T_of hl cl_all ar_all ik_X10_measure ck_X10_measure s args h1 h2⟩
theorem ok_95 (hl : l.stackTraces = false) : okMj l n0 sa sv 95 := by
  intro C nL h
  obtain ⟨rfl, rfl⟩ : C_X10_firstStep = C ∧ 7 = nL := Prod.mk.injEq _ _ _ _ ▸ Option.some.inj h
  exact ⟨rfl, plain_ok (by decide), rfl, (fun h => by cases h), fun s args h1 h2 => pm_T_of hl cl_all ar_all ik_X10_firstStep ck_X10_firstStep s args h1 h2⟩
theorem ok_96 (hl : l.stackTraces = false) : okMj l n0 sa sv 96 := by
  intro C nL h
  obtain ⟨rfl, rfl⟩ : C_X10_parts = C ∧ 8 = nL := Prod.mk.injEq _ _ _ _ ▸ Option.some.inj h
  exact ⟨rfl, plain_ok (by decide), rfl, (fun h => by cases h), fun s args h1 h2 => pm_T_of hl cl_all ar_all ik_X10_parts ck_X10_parts s args h1 h2⟩
theorem ok_97 (hl : l.stackTraces = false) : okMj l n0 sa sv 97 := by
  intro C nL h
  obtain ⟨rfl, rfl⟩ : C_X10_seenFrom = C ∧ 8 = nL := Prod.mk.injEq _ _ _ _ ▸ Option.some.inj h
  exact ⟨rfl, plain_ok (by decide), rfl, (fun h => by cases h), fun s args h1 h2 => pm_T_of hl cl_all ar_all ik_X10_seenFrom ck_X10_seenFrom s args h1 h2⟩
theorem ok_98 (hl : l.stackTraces = false) : okMj l n0 sa sv 98 := by
  intro C nL h
  obtain ⟨rfl, rfl⟩ : C_X11_init = C ∧ 1 = nL := Prod.mk.injEq _ _ _ _ ▸ Option.some.inj h
  exact ⟨rfl, plain_ok (by decide), rfl, fun _ => rfl, fun s args h1 h2 => pm_T_of hl cl_all ar_all ik_X11_init ck_X11_init s args h1 h2⟩
theorem ok_99 (hl : l.stackTraces = false) : okMj l n0 sa sv 99 := by
  intro C nL h
  obtain ⟨rfl, rfl⟩ : C_X11_feed = C ∧ 6 = nL := Prod.mk.injEq _ _ _ _ ▸ Option.some.inj h
  exact ⟨rfl, plain_ok (by decide), rfl, (fun h => by cases h), fun s args h1 h2 => pm_T_of hl cl_all ar_all ik_X11_feed ck_X11_feed s args h1 h2⟩
theorem ok_100 (hl : l.stackTraces = false) : okMj l n0 sa sv 100 := by
  intro C nL h
  obtain ⟨rfl, rfl⟩ : C_X11_town = C ∧ 4 = nL := Prod.mk.injEq _ _ _ _ ▸ Option.some.inj h
  exact ⟨rfl, plain_ok (by decide), rfl, (fun h => by cases h), fun s args h1 h2 => pm_T_of hl cl_all ar_all ik_X11_town ck_X11_town s args h1 h2⟩
theorem ok_101 (hl : l.stackTraces = false) : okMj l n0 sa sv 101 := by
  intro C nL h
  obtain ⟨rfl, rfl⟩ : C_X11_fault = C ∧ 1 = nL := Prod.mk.injEq _ _ _ _ ▸ Option.some.inj h
  exact ⟨rfl, plain_ok (by decide), rfl, (fun h => by cases h), fun s args h1 h2 => pm_T_of hl cl_all ar_all ik_X11_fault ck_X11_fault s args h1 h2⟩
theorem ok_102 (hl : l.stackTraces = false) : okMj l n0 sa sv 102 := by
  intro C nL h
  obtain ⟨rfl, rfl⟩ : C_X11_count = C ∧ 2 = nL := Prod.mk.injEq _ _ _ _ ▸ Option.some.inj h
  exact ⟨rfl, plain_ok (by decide), rfl, (fun h => by cases h), fun s args h1 h2 => pm_T_of hl cl_all ar_all ik_X11_count ck_X11_count s args h1 h2⟩
theorem ok_103 (hl : l.stackTraces = false) : okMj l n0 sa sv 103 := by
  intro C nL h
  obtain ⟨rfl, rfl⟩ : C_X11_figure = C ∧ 3 = nL := Prod.mk.injEq _ _ _ _ ▸ Option.some.inj h
  exact ⟨rfl, plain_ok (by decide), rfl, (fun h => by cases h), fun s args h1 h2 => pm_T_of hl cl_all ar_all ik_X11_figure ck_X11_figure s args h1 h2⟩
theorem ok_104 (hl : l.stackTraces = false) : okMj l n0 sa sv 104 := by
  intro C nL h
  obtain ⟨rfl, rfl⟩ : C_X11_cell = C ∧ 3 = nL := Prod.mk.injEq _ _ _ _ ▸ Option.some.inj h
  exact ⟨rfl, plain_ok (by decide), rfl, (fun h => by cases h), fun s args h1 h2 => pm_T_of hl cl_all ar_all ik_X11_cell ck_X11_cell s args h1 h2⟩
theorem ok_105 (hl : l.stackTraces = false) : okMj l n0 sa sv 105 := by
  intro C nL h
  obtain ⟨rfl, rfl⟩ : C_X11_hours = C ∧ 2 = nL := Prod.mk.injEq _ _ _ _ ▸ Option.some.inj h
  exact ⟨rfl, plain_ok (by decide), rfl, (fun h => by cases h), fun s args h1 h2 => pm_T_of hl cl_all ar_all ik_X11_hours ck_X11_hours s args h1 h2⟩
theorem ok_106 (hl : l.stackTraces = false) : okMj l n0 sa sv 106 := by
  intro C nL h
  obtain ⟨rfl, rfl⟩ : C_X11_stop = C ∧ 3 = nL := Prod.mk.injEq _ _ _ _ ▸ Option.some.inj h
  exact ⟨rfl, plain_ok (by decide), rfl, (fun h => by cases h), fun s args h1 h2 => pm_T_of hl cl_all ar_all ik_X11_stop ck_X11_stop s args h1 h2⟩
theorem ok_107 (hl : l.stackTraces = false) : okMj l n0 sa sv 107 := by
  intro C nL h
  obtain ⟨rfl, rfl⟩ : C_X11_lift = C ∧ 4 = nL := Prod.mk.injEq _ _ _ _ ▸ Option.some.inj h
  exact ⟨rfl, plain_ok (by decide), rfl, (fun h => by cases h), fun s args h1 h2 => pm_T_of hl cl_all ar_all ik_X11_lift ck_X11_lift s args h1 h2⟩
theorem ok_108 (hl : l.stackTraces = false) : okMj l n0 sa sv 108 := by
  intro C nL h
  obtain ⟨rfl, rfl⟩ : C_X11_brush = C ∧ 3 = nL := Prod.mk.injEq _ _ _ _ ▸ Option.some.inj h
  exact ⟨rfl, plain_ok (by decide), rfl, (fun h => by cases h), fun s args h1 h2 => pm_T_of hl cl_all ar_all ik_X11_brush ck_X11_brush s args h1 h2⟩
theorem ok_109 (hl : l.stackTraces = false) : okMj l n0 sa sv 109 := by
  intro C nL h
  obtain ⟨rfl, rfl⟩ : C_X11_wall = C ∧ 3 = nL := Prod.mk.injEq _ _ _ _ ▸ Option.some.inj h
  exact ⟨rfl, plain_ok (by decide), rfl, (fun h => by cases h), fun s args h1 h2 => pm_T_of hl cl_all ar_all ik_X11_wall ck_X11_wall s args h1 h2⟩
theorem ok_110 (hl : l.stackTraces = false) : okMj l n0 sa sv 110 := by
  intro C nL h
  obtain ⟨rfl, rfl⟩ : C_X11_undo = C ∧ 1 = nL := Prod.mk.injEq _ _ _ _ ▸ Option.some.inj h
  exact ⟨rfl, plain_ok (by decide), rfl, (fun h => by cases h), fun s args h1 h2 => pm_T_of hl cl_all ar_all ik_X11_undo ck_X11_undo s args h1 h2⟩
theorem ok_111 (hl : l.stackTraces = false) : okMj l n0 sa sv 111 := by
  intro C nL h
  obtain ⟨rfl, rfl⟩ : C_X11_then = C ∧ 4 = nL := Prod.mk.injEq _ _ _ _ ▸ Option.some.inj h
  exact ⟨rfl, plain_ok (by decide), rfl, (fun h => by cases h), fun s args h1 h2 => pm_T_of hl cl_all ar_all ik_X11_then ck_X11_then s args h1 h2⟩
theorem ok_112 (hl : l.stackTraces = false) : okMj l n0 sa sv 112 := by
  intro C nL h
  obtain ⟨rfl, rfl⟩ : C_X11_comes = C ∧ 4 = nL := Prod.mk.injEq _ _ _ _ ▸ Option.some.inj h
  exact ⟨rfl, plain_ok (by decide), rfl, (fun h => by cases h), fun s args h1 h2 => pm_T_of hl cl_all ar_all ik_X11_comes ck_X11_comes s args h1 h2⟩
theorem ok_113 (hl : l.stackTraces = false) : okMj l n0 sa sv 113 := by
  intro C nL h
  obtain ⟨rfl, rfl⟩ : C_X11_meet = C ∧ 4 = nL := Prod.mk.injEq _ _ _ _ ▸ Option.some.inj h
  exact ⟨rfl, plain_ok (by decide), rfl, (fun h => by cases h), fun s args h1 h2 => pm_T_of hl cl_all ar_all ik_X11_meet ck_X11_meet s args h1 h2⟩
theorem ok_114 (hl : l.stackTraces = false) : okMj l n0 sa sv 114 := by
  intro C nL h
  obtain ⟨rfl, rfl⟩ : C_X11_crowd = C ∧ 7 = nL := Prod.mk.injEq _ _ _ _ ▸ Option.some.inj h
  exact ⟨rfl, plain_ok (by decide), rfl, (fun h => by cases h), fun s args h1 h2 => pm_T_of hl cl_all ar_all ik_X11_crowd ck_X11_crowd s args h1 h2⟩
theorem ok_115 (hl : l.stackTraces = false) : okMj l n0 sa sv 115 := by
  intro C nL h
  obtain ⟨rfl, rfl⟩ : C_X11_round = C ∧ 2 = nL := Prod.mk.injEq _ _ _ _ ▸ Option.some.inj h
  exact ⟨rfl, plain_ok (by decide), rfl, (fun h => by cases h), fun s args h1 h2 => pm_T_of hl cl_all ar_all ik_X11_round ck_X11_round s args h1 h2⟩
theorem ok_116 (hl : l.stackTraces = false) : okMj l n0 sa sv 116 := by
  intro C nL h
  obtain ⟨rfl, rfl⟩ : C_X11_spread = C ∧ 6 = nL := Prod.mk.injEq _ _ _ _ ▸ Option.some.inj h
  exact ⟨rfl, plain_ok (by decide), rfl, (fun h => by cases h), fun s args h1 h2 => pm_T_of hl cl_all ar_all ik_X11_spread ck_X11_spread s args h1 h2⟩
theorem ok_117 (hl : l.stackTraces = false) : okMj l n0 sa sv 117 := by
  intro C nL h
  obtain ⟨rfl, rfl⟩ : C_X11_way = C ∧ 4 = nL := Prod.mk.injEq _ _ _ _ ▸ Option.some.inj h
  exact ⟨rfl, plain_ok (by decide), rfl, (fun h => by cases h), fun s args h1 h2 => pm_T_of hl cl_all ar_all ik_X11_way ck_X11_way s args h1 h2⟩
theorem ok_118 (hl : l.stackTraces = false) : okMj l n0 sa sv 118 := by
  intro C nL h
  obtain ⟨rfl, rfl⟩ : C_X11_toStop = C ∧ 5 = nL := Prod.mk.injEq _ _ _ _ ▸ Option.some.inj h
  exact ⟨rfl, plain_ok (by decide), rfl, (fun h => by cases h), fun s args h1 h2 => pm_T_of hl cl_all ar_all ik_X11_toStop ck_X11_toStop s args h1 h2⟩
theorem ok_119 (hl : l.stackTraces = false) : okMj l n0 sa sv 119 := by
  intro C nL h
  obtain ⟨rfl, rfl⟩ : C_X11_toThin = C ∧ 4 = nL := Prod.mk.injEq _ _ _ _ ▸ Option.some.inj h
  exact ⟨rfl, plain_ok (by decide), rfl, (fun h => by cases h), fun s args h1 h2 => pm_T_of hl cl_all ar_all ik_X11_toThin ck_X11_toThin s args h1 h2⟩
theorem ok_120 (hl : l.stackTraces = false) : okMj l n0 sa sv 120 := by
  intro C nL h
  obtain ⟨rfl, rfl⟩ : C_X11_seats = C ∧ 2 = nL := Prod.mk.injEq _ _ _ _ ▸ Option.some.inj h
  exact ⟨rfl, plain_ok (by decide), rfl, (fun h => by cases h), fun s args h1 h2 => pm_T_of hl cl_all ar_all ik_X11_seats ck_X11_seats s args h1 h2⟩
theorem ok_121 (hl : l.stackTraces = false) : okMj l n0 sa sv 121 := by
  intro C nL h
  obtain ⟨rfl, rfl⟩ : C_X11_seat = C ∧ 2 = nL := Prod.mk.injEq _ _ _ _ ▸ Option.some.inj h
  exact ⟨rfl, plain_ok (by decide), rfl, (fun h => by cases h), fun s args h1 h2 => pm_T_of hl cl_all ar_all ik_X11_seat ck_X11_seat s args h1 h2⟩
theorem ok_122 (hl : l.stackTraces = false) : okMj l n0 sa sv 122 := by
  intro C nL h
  obtain ⟨rfl, rfl⟩ : C_X11_note = C ∧ 4 = nL := Prod.mk.injEq _ _ _ _ ▸ Option.some.inj h
  exact ⟨rfl, plain_ok (by decide), rfl, (fun h => by cases h), fun s args h1 h2 => pm_T_of hl cl_all ar_all ik_X11_note ck_X11_note s args h1 h2⟩
theorem ok_123 (hl : l.stackTraces = false) : okMj l n0 sa sv 123 := by
  intro C nL h
  obtain ⟨rfl, rfl⟩ : C_X11_forget = C ∧ 1 = nL := Prod.mk.injEq _ _ _ _ ▸ Option.some.inj h
  exact ⟨rfl, plain_ok (by decide), rfl, (fun h => by cases h), fun s args h1 h2 => pm_T_of hl cl_all ar_all ik_X11_forget ck_X11_forget s args h1 h2⟩
theorem ok_124 (hl : l.stackTraces = false) : okMj l n0 sa sv 124 := by
  intro C nL h
  obtain ⟨rfl, rfl⟩ : C_X11_ahead = C ∧ 2 = nL := Prod.mk.injEq _ _ _ _ ▸ Option.some.inj h
  exact ⟨rfl, plain_ok (by decide), rfl, (fun h => by cases h), fun s args h1 h2 => pm_T_of hl cl_all ar_all ik_X11_ahead ck_X11_ahead s args h1 h2⟩
theorem ok_125 (hl : l.stackTraces = false) : okMj l n0 sa sv 125 := by
  intro C nL h
  obtain ⟨rfl, rfl⟩ : C_X11_look = C ∧ 6 = nL := Prod.mk.injEq _ _ _ _ ▸ Option.some.inj h
  exact ⟨rfl, plain_ok (by decide), rfl, (fun h => by cases h), fun s args h1 h2 => pm_T_of hl cl_all ar_all ik_X11_look ck_X11_look s args h1 h2⟩
theorem ok_126 (hl : l.stackTraces = false) : okMj l n0 sa sv 126 := by
  intro C nL h
  obtain ⟨rfl, rfl⟩ : C_X11_clouds = C ∧ 10 = nL := Prod.mk.injEq _ _ _ _ ▸ Option.some.inj h
  exact ⟨rfl, plain_ok (by decide), rfl, (fun h => by cases h), fun s args h1 h2 => pm_T_of hl cl_all ar_all ik_X11_clouds ck_X11_clouds s args h1 h2⟩
theorem ok_127 (hl : l.stackTraces = false) : okMj l n0 sa sv 127 := by
  intro C nL h
  obtain ⟨rfl, rfl⟩ : C_X11_game = C ∧ 7 = nL := Prod.mk.injEq _ _ _ _ ▸ Option.some.inj h
  exact ⟨rfl, plain_ok (by decide), rfl, (fun h => by cases h), fun s args h1 h2 => pm_T_of hl cl_all ar_all ik_X11_game ck_X11_game s args h1 h2⟩
theorem ok_128 (hl : l.stackTraces = false) : okMj l n0 sa sv 128 := by
  intro C nL h
  obtain ⟨rfl, rfl⟩ : C_X11_years = C ∧ 6 = nL := Prod.mk.injEq _ _ _ _ ▸ Option.some.inj h
  exact ⟨rfl, plain_ok (by decide), rfl, (fun h => by cases h), fun s args h1 h2 => pm_T_of hl cl_all ar_all ik_X11_years ck_X11_years s args h1 h2⟩
theorem ok_129 (hl : l.stackTraces = false) : okMj l n0 sa sv 129 := by
  intro C nL h
  obtain ⟨rfl, rfl⟩ : C_X11_later = C ∧ 3 = nL := Prod.mk.injEq _ _ _ _ ▸ Option.some.inj h
  exact ⟨rfl, plain_ok (by decide), rfl, (fun h => by cases h), fun s args h1 h2 => pm_T_of hl cl_all ar_all ik_X11_later ck_X11_later s args h1 h2⟩
theorem ok_130 (hl : l.stackTraces = false) : okMj l n0 sa sv 130 := by
  intro C nL h
  obtain ⟨rfl, rfl⟩ : C_X11_together = C ∧ 6 = nL := Prod.mk.injEq _ _ _ _ ▸ Option.some.inj h
  exact ⟨rfl, plain_ok (by decide), rfl, (fun h => by cases h), fun s args h1 h2 => pm_T_of hl cl_all ar_all ik_X11_together ck_X11_together s args h1 h2⟩
theorem ok_131 (hl : l.stackTraces = false) : okMj l n0 sa sv 131 := by
  intro C nL h
  obtain ⟨rfl, rfl⟩ : C_X11_quiet = C ∧ 5 = nL := Prod.mk.injEq _ _ _ _ ▸ Option.some.inj h
  exact ⟨rfl, plain_ok (by decide), rfl, (fun h => by cases h), fun s args h1 h2 => pm_T_of hl cl_all ar_all ik_X11_quiet ck_X11_quiet s args h1 h2⟩
theorem ok_132 (hl : l.stackTraces = false) : okMj l n0 sa sv 132 := by
  intro C nL h
  obtain ⟨rfl, rfl⟩ : C_X11_gone = C ∧ 6 = nL := Prod.mk.injEq _ _ _ _ ▸ Option.some.inj h
  exact ⟨rfl, plain_ok (by decide), rfl, (fun h => by cases h), fun s args h1 h2 => pm_T_of hl cl_all ar_all ik_X11_gone ck_X11_gone s args h1 h2⟩
theorem ok_133 (hl : l.stackTraces = false) : okMj l n0 sa sv 133 := by
  intro C nL h
  obtain ⟨rfl, rfl⟩ : C_X11_image = C ∧ 1 = nL := Prod.mk.injEq _ _ _ _ ▸ Option.some.inj h
  exact ⟨rfl, plain_ok (by decide), rfl, (fun h => by cases h), fun s args h1 h2 => pm_T_of hl cl_all ar_all ik_X11_image ck_X11_image s args h1 h2⟩
theorem ok_134 (hl : l.stackTraces = false) : okMj l n0 sa sv 134 := by
  intro C nL h
  obtain ⟨rfl, rfl⟩ : C_X11_restore = C ∧ 1 = nL := Prod.mk.injEq _ _ _ _ ▸ Option.some.inj h
  exact ⟨rfl, plain_ok (by decide), rfl, (fun h => by cases h), fun s args h1 h2 => pm_T_of hl cl_all ar_all ik_X11_restore ck_X11_restore s args h1 h2⟩
theorem ok_135 (hl : l.stackTraces = false) : okMj l n0 sa sv 135 := by
  intro C nL h
  obtain ⟨rfl, rfl⟩ : C_X11_checkFigure = C ∧ 2 = nL := Prod.mk.injEq _ _ _ _ ▸ Option.some.inj h
  exact ⟨rfl, plain_ok (by decide), rfl, (fun h => by cases h), fun s args h1 h2 => pm_T_of hl cl_all ar_all ik_X11_checkFigure ck_X11_checkFigure s args h1 h2⟩
theorem ok_136 (hl : l.stackTraces = false) : okMj l n0 sa sv 136 := by
  intro C nL h
  obtain ⟨rfl, rfl⟩ : C_X11_checkCell = C ∧ 2 = nL := Prod.mk.injEq _ _ _ _ ▸ Option.some.inj h
  exact ⟨rfl, plain_ok (by decide), rfl, (fun h => by cases h), fun s args h1 h2 => pm_T_of hl cl_all ar_all ik_X11_checkCell ck_X11_checkCell s args h1 h2⟩
theorem ok_137 (hl : l.stackTraces = false) : okMj l n0 sa sv 137 := by
  intro C nL h
  obtain ⟨rfl, rfl⟩ : C_X11_checkWhat = C ∧ 2 = nL := Prod.mk.injEq _ _ _ _ ▸ Option.some.inj h
  exact ⟨rfl, plain_ok (by decide), rfl, (fun h => by cases h), fun s args h1 h2 => pm_T_of hl cl_all ar_all ik_X11_checkWhat ck_X11_checkWhat s args h1 h2⟩
theorem ok_138 (hl : l.stackTraces = false) : okMj l n0 sa sv 138 := by
  intro C nL h
  obtain ⟨rfl, rfl⟩ : C_X11_checkHours = C ∧ 3 = nL := Prod.mk.injEq _ _ _ _ ▸ Option.some.inj h
  exact ⟨rfl, plain_ok (by decide), rfl, (fun h => by cases h), fun s args h1 h2 => pm_T_of hl cl_all ar_all ik_X11_checkHours ck_X11_checkHours s args h1 h2⟩
theorem ok_139 (hl : l.stackTraces = false) : okMj l n0 sa sv 139 := by
  intro C nL h
  obtain ⟨rfl, rfl⟩ : C_X11_refuseAct = C ∧ 1 = nL := Prod.mk.injEq _ _ _ _ ▸ Option.some.inj h
  exact ⟨rfl, plain_ok (by decide), rfl, (fun h => by cases h), fun s args h1 h2 => pm_T_of hl cl_all ar_all ik_X11_refuseAct ck_X11_refuseAct s args h1 h2⟩
theorem ok_140 (hl : l.stackTraces = false) : okMj l n0 sa sv 140 := by
  intro C nL h
  obtain ⟨rfl, rfl⟩ : C_X11_pay = C ∧ 2 = nL := Prod.mk.injEq _ _ _ _ ▸ Option.some.inj h
  exact ⟨rfl, plain_ok (by decide), rfl, (fun h => by cases h), fun s args h1 h2 => pm_T_of hl cl_all ar_all ik_X11_pay ck_X11_pay s args h1 h2⟩
theorem ok_141 (hl : l.stackTraces = false) : okMj l n0 sa sv 141 := by
  intro C nL h
  obtain ⟨rfl, rfl⟩ : C_X11_foresee = C ∧ 2 = nL := Prod.mk.injEq _ _ _ _ ▸ Option.some.inj h
  exact ⟨rfl, plain_ok (by decide), rfl, (fun h => by cases h), fun s args h1 h2 => pm_T_of hl cl_all ar_all ik_X11_foresee ck_X11_foresee s args h1 h2⟩
theorem ok_142 (hl : l.stackTraces = false) : okMj l n0 sa sv 142 := by
  intro C nL h
  obtain ⟨rfl, rfl⟩ : C_X11_passFuture = C ∧ 1 = nL := Prod.mk.injEq _ _ _ _ ▸ Option.some.inj h
  exact ⟨rfl, plain_ok (by decide), rfl, (fun h => by cases h), fun s args h1 h2 => pm_T_of hl cl_all ar_all ik_X11_passFuture ck_X11_passFuture s args h1 h2⟩
theorem ok_143 (hl : l.stackTraces = false) : okMj l n0 sa sv 143 := by
  intro C nL h
  obtain ⟨rfl, rfl⟩ : C_X11_addMeetings = C ∧ 2 = nL := Prod.mk.injEq _ _ _ _ ▸ Option.some.inj h
  exact ⟨rfl, plain_ok (by decide), rfl, (fun h => by cases h), fun s args h1 h2 => pm_T_of hl cl_all ar_all ik_X11_addMeetings ck_X11_addMeetings s args h1 h2⟩
theorem ok_144 (hl : l.stackTraces = false) : okMj l n0 sa sv 144 := by
  intro C nL h
  obtain ⟨rfl, rfl⟩ : C_X11_noneMeets = C ∧ 3 = nL := Prod.mk.injEq _ _ _ _ ▸ Option.some.inj h
  exact ⟨rfl, plain_ok (by decide), rfl, (fun h => by cases h), fun s args h1 h2 => pm_T_of hl cl_all ar_all ik_X11_noneMeets ck_X11_noneMeets s args h1 h2⟩
theorem ok_145 (hl : l.stackTraces = false) : okMj l n0 sa sv 145 := by
  intro C nL h
  obtain ⟨rfl, rfl⟩ : C_X11_play = C ∧ 7 = nL := Prod.mk.injEq _ _ _ _ ▸ Option.some.inj h
  exact ⟨rfl, plain_ok (by decide), rfl, (fun h => by cases h), fun s args h1 h2 => pm_T_of hl cl_all ar_all ik_X11_play ck_X11_play s args h1 h2⟩
theorem ok_146 (hl : l.stackTraces = false) : okMj l n0 sa sv 146 := by
  intro C nL h
  obtain ⟨rfl, rfl⟩ : C_X11_rests = C ∧ 3 = nL := Prod.mk.injEq _ _ _ _ ▸ Option.some.inj h
  exact ⟨rfl, plain_ok (by decide), rfl, (fun h => by cases h), fun s args h1 h2 => pm_T_of hl cl_all ar_all ik_X11_rests ck_X11_rests s args h1 h2⟩
theorem ok_147 (hl : l.stackTraces = false) : okMj l n0 sa sv 147 := by
  intro C nL h
  obtain ⟨rfl, rfl⟩ : C_X11_draw = C ∧ 2 = nL := Prod.mk.injEq _ _ _ _ ▸ Option.some.inj h
  exact ⟨rfl, plain_ok (by decide), rfl, (fun h => by cases h), fun s args h1 h2 => pm_T_of hl cl_all ar_all ik_X11_draw ck_X11_draw s args h1 h2⟩
theorem ok_148 (hl : l.stackTraces = false) : okMj l n0 sa sv 148 := by
  intro C nL h
  obtain ⟨rfl, rfl⟩ : C_X11_drawFate = C ∧ 4 = nL := Prod.mk.injEq _ _ _ _ ▸ Option.some.inj h
  exact ⟨rfl, plain_ok (by decide), rfl, (fun h => by cases h), fun s args h1 h2 => pm_T_of hl cl_all ar_all ik_X11_drawFate ck_X11_drawFate s args h1 h2⟩
theorem ok_149 (hl : l.stackTraces = false) : okMj l n0 sa sv 149 := by
  intro C nL h
  obtain ⟨rfl, rfl⟩ : C_X11_busiest = C ∧ 5 = nL := Prod.mk.injEq _ _ _ _ ▸ Option.some.inj h
  exact ⟨rfl, plain_ok (by decide), rfl, (fun h => by cases h), fun s args h1 h2 => pm_T_of hl cl_all ar_all ik_X11_busiest ck_X11_busiest s args h1 h2⟩
theorem ok_150 (hl : l.stackTraces = false) : okMj l n0 sa sv 150 := by
  intro C nL h
  obtain ⟨rfl, rfl⟩ : C_X11_sorest = C ∧ 5 = nL := Prod.mk.injEq _ _ _ _ ▸ Option.some.inj h
  exact ⟨rfl, plain_ok (by decide), rfl, (fun h => by cases h), fun s args h1 h2 => pm_T_of hl cl_all ar_all ik_X11_sorest ck_X11_sorest s args h1 h2⟩
theorem ok_151 (hl : l.stackTraces = false) : okMj l n0 sa sv 151 := by
  intro C nL h
  obtain ⟨rfl, rfl⟩ : C_X11_alone = C ∧ 4 = nL := Prod.mk.injEq _ _ _ _ ▸ Option.some.inj h
  exact ⟨rfl, plain_ok (by decide), rfl, (fun h => by cases h), fun s args h1 h2 => pm_T_of hl cl_all ar_all ik_X11_alone ck_X11_alone s args h1 h2⟩
theorem ok_152 (hl : l.stackTraces = false) : okMj l n0 sa sv 152 := by
  intro C nL h
  obtain ⟨rfl, rfl⟩ : C_X11_stuck = C ∧ 4 = nL := Prod.mk.injEq _ _ _ _ ▸ Option.some.inj h
  exact ⟨rfl, plain_ok (by decide), rfl, (fun h => by cases h), fun s args h1 h2 => pm_T_of hl cl_all ar_all ik_X11_stuck ck_X11_stuck s args h1 h2⟩
theorem ok_153 (hl : l.stackTraces = false) : okMj l n0 sa sv 153 := by
  intro C nL h
  obtain ⟨rfl, rfl⟩ : C_X12_init = C ∧ 1 = nL := Prod.mk.injEq _ _ _ _ ▸ Option.some.inj h
  exact ⟨rfl, plain_ok (by decide), rfl, fun _ => rfl, fun s args h1 h2 => pm_T_of hl cl_all ar_all ik_X12_init ck_X12_init s args h1 h2⟩
theorem ok_154 (hl : l.stackTraces = false) : okMj l n0 sa sv 154 := by
  intro C nL h
  obtain ⟨rfl, rfl⟩ : C_X12_thrown = C ∧ 1 = nL := Prod.mk.injEq _ _ _ _ ▸ Option.some.inj h
  exact ⟨rfl, plain_ok (by decide), rfl, (fun h => by cases h), fun s args h1 h2 => pm_T_of hl cl_all ar_all ik_X12_thrown ck_X12_thrown s args h1 h2⟩
theorem ok_155 (hl : l.stackTraces = false) : okMj l n0 sa sv 155 := by
  intro C nL h
  obtain ⟨rfl, rfl⟩ : C_X12_right = C ∧ 3 = nL := Prod.mk.injEq _ _ _ _ ▸ Option.some.inj h
  exact ⟨rfl, plain_ok (by decide), rfl, (fun h => by cases h), fun s args h1 h2 => pm_T_of hl cl_all ar_all ik_X12_right ck_X12_right s args h1 h2⟩
theorem ok_156 (hl : l.stackTraces = false) : okMj l n0 sa sv 156 := by
  intro C nL h
  obtain ⟨rfl, rfl⟩ : C_X12_within = C ∧ 3 = nL := Prod.mk.injEq _ _ _ _ ▸ Option.some.inj h
  exact ⟨rfl, plain_ok (by decide), rfl, (fun h => by cases h), fun s args h1 h2 => pm_T_of hl cl_all ar_all ik_X12_within ck_X12_within s args h1 h2⟩
theorem ok_157 (hl : l.stackTraces = false) : okMj l n0 sa sv 157 := by
  intro C nL h
  obtain ⟨rfl, rfl⟩ : C_X12_bounded = C ∧ 3 = nL := Prod.mk.injEq _ _ _ _ ▸ Option.some.inj h
  exact ⟨rfl, plain_ok (by decide), rfl, (fun h => by cases h), fun s args h1 h2 => pm_T_of hl cl_all ar_all ik_X12_bounded ck_X12_bounded s args h1 h2⟩
theorem ok_158 (hl : l.stackTraces = false) : okMj l n0 sa sv 158 := by
  intro C nL h
  obtain ⟨rfl, rfl⟩ : C_X12_lesser = C ∧ 2 = nL := Prod.mk.injEq _ _ _ _ ▸ Option.some.inj h
  exact ⟨rfl, plain_ok (by decide), rfl, (fun h => by cases h), fun s args h1 h2 => pm_T_of hl cl_all ar_all ik_X12_lesser ck_X12_lesser s args h1 h2⟩
theorem ok_159 (hl : l.stackTraces = false) : okMj l n0 sa sv 159 := by
  intro C nL h
  obtain ⟨rfl, rfl⟩ : C_X12_copies = C ∧ 4 = nL := Prod.mk.injEq _ _ _ _ ▸ Option.some.inj h
  exact ⟨rfl, plain_ok (by decide), rfl, (fun h => by cases h), fun s args h1 h2 => pm_T_of hl cl_all ar_all ik_X12_copies ck_X12_copies s args h1 h2⟩
theorem ok_160 (hl : l.stackTraces = false) : okMj l n0 sa sv 160 := by
  intro C nL h
  obtain ⟨rfl, rfl⟩ : C_X12_bits = C ∧ 3 = nL := Prod.mk.injEq _ _ _ _ ▸ Option.some.inj h
  exact ⟨rfl, plain_ok (by decide), rfl, (fun h => by cases h), fun s args h1 h2 => pm_T_of hl cl_all ar_all ik_X12_bits ck_X12_bits s args h1 h2⟩
theorem ok_161 (hl : l.stackTraces = false) : okMj l n0 sa sv 161 := by
  intro C nL h
  obtain ⟨rfl, rfl⟩ : C_X12_feed = C ∧ 6 = nL := Prod.mk.injEq _ _ _ _ ▸ Option.some.inj h
  exact ⟨rfl, plain_ok (by decide), rfl, (fun h => by cases h), fun s args h1 h2 => pm_T_of hl cl_all ar_all ik_X12_feed ck_X12_feed s args h1 h2⟩
theorem ok_162 (hl : l.stackTraces = false) : okMj l n0 sa sv 162 := by
  intro C nL h
  obtain ⟨rfl, rfl⟩ : C_X12_lays = C ∧ 3 = nL := Prod.mk.injEq _ _ _ _ ▸ Option.some.inj h
  exact ⟨rfl, plain_ok (by decide), rfl, (fun h => by cases h), fun s args h1 h2 => pm_T_of hl cl_all ar_all ik_X12_lays ck_X12_lays s args h1 h2⟩
theorem ok_163 (hl : l.stackTraces = false) : okMj l n0 sa sv 163 := by
  intro C nL h
  obtain ⟨rfl, rfl⟩ : C_X12_byteAt = C ∧ 2 = nL := Prod.mk.injEq _ _ _ _ ▸ Option.some.inj h
  exact ⟨rfl, plain_ok (by decide), rfl, (fun h => by cases h), fun s args h1 h2 => pm_T_of hl cl_all ar_all ik_X12_byteAt ck_X12_byteAt s args h1 h2⟩
theorem ok_164 (hl : l.stackTraces = false) : okMj l n0 sa sv 164 := by
  intro C nL h
  obtain ⟨rfl, rfl⟩ : C_X12_isLetter = C ∧ 1 = nL := Prod.mk.injEq _ _ _ _ ▸ Option.some.inj h
  exact ⟨rfl, plain_ok (by decide), rfl, (fun h => by cases h), fun s args h1 h2 => pm_T_of hl cl_all ar_all ik_X12_isLetter ck_X12_isLetter s args h1 h2⟩
theorem ok_165 (hl : l.stackTraces = false) : okMj l n0 sa sv 165 := by
  intro C nL h
  obtain ⟨rfl, rfl⟩ : C_X12_isDigit = C ∧ 1 = nL := Prod.mk.injEq _ _ _ _ ▸ Option.some.inj h
  exact ⟨rfl, plain_ok (by decide), rfl, (fun h => by cases h), fun s args h1 h2 => pm_T_of hl cl_all ar_all ik_X12_isDigit ck_X12_isDigit s args h1 h2⟩
theorem ok_166 (hl : l.stackTraces = false) : okMj l n0 sa sv 166 := by
  intro C nL h
  obtain ⟨rfl, rfl⟩ : C_X12_goes = C ∧ 2 = nL := Prod.mk.injEq _ _ _ _ ▸ Option.some.inj h
  exact ⟨rfl, plain_ok (by decide), rfl, (fun h => by cases h), fun s args h1 h2 => pm_T_of hl cl_all ar_all ik_X12_goes ck_X12_goes s args h1 h2⟩
theorem ok_167 (hl : l.stackTraces = false) : okMj l n0 sa sv 167 := by
  intro C nL h
  obtain ⟨rfl, rfl⟩ : C_X12_spelled = C ∧ 8 = nL := Prod.mk.injEq _ _ _ _ ▸ Option.some.inj h
  exact ⟨rfl, plain_ok (by decide), rfl, (fun h => by cases h), fun s args h1 h2 => pm_T_of hl cl_all ar_all ik_X12_spelled ck_X12_spelled s args h1 h2⟩
theorem ok_168 (hl : l.stackTraces = false) : okMj l n0 sa sv 168 := by
  intro C nL h
  obtain ⟨rfl, rfl⟩ : C_X12_letters = C ∧ 1 = nL := Prod.mk.injEq _ _ _ _ ▸ Option.some.inj h
  exact ⟨rfl, plain_ok (by decide), rfl, (fun h => by cases h), fun s args h1 h2 => pm_T_of hl cl_all ar_all ik_X12_letters ck_X12_letters s args h1 h2⟩
theorem ok_169 (hl : l.stackTraces = false) : okMj l n0 sa sv 169 := by
  intro C nL h
  obtain ⟨rfl, rfl⟩ : C_X12_knownWord = C ∧ 2 = nL := Prod.mk.injEq _ _ _ _ ▸ Option.some.inj h
  exact ⟨rfl, plain_ok (by decide), rfl, (fun h => by cases h), fun s args h1 h2 => pm_T_of hl cl_all ar_all ik_X12_knownWord ck_X12_knownWord s args h1 h2⟩
theorem ok_170 (hl : l.stackTraces = false) : okMj l n0 sa sv 170 := by
  intro C nL h
  obtain ⟨rfl, rfl⟩ : C_X12_wrong = C ∧ 2 = nL := Prod.mk.injEq _ _ _ _ ▸ Option.some.inj h
  exact ⟨rfl, plain_ok (by decide), rfl, (fun h => by cases h), fun s args h1 h2 => pm_T_of hl cl_all ar_all ik_X12_wrong ck_X12_wrong s args h1 h2⟩
theorem ok_171 (hl : l.stackTraces = false) : okMj l n0 sa sv 171 := by
  intro C nL h
  obtain ⟨rfl, rfl⟩ : C_X12_isGood = C ∧ 1 = nL := Prod.mk.injEq _ _ _ _ ▸ Option.some.inj h
  exact ⟨rfl, plain_ok (by decide), rfl, (fun h => by cases h), fun s args h1 h2 => pm_T_of hl cl_all ar_all ik_X12_isGood ck_X12_isGood s args h1 h2⟩
theorem ok_172 (hl : l.stackTraces = false) : okMj l n0 sa sv 172 := by
  intro C nL h
  obtain ⟨rfl, rfl⟩ : C_X12_isSign = C ∧ 2 = nL := Prod.mk.injEq _ _ _ _ ▸ Option.some.inj h
  exact ⟨rfl, plain_ok (by decide), rfl, (fun h => by cases h), fun s args h1 h2 => pm_T_of hl cl_all ar_all ik_X12_isSign ck_X12_isSign s args h1 h2⟩
theorem ok_173 (hl : l.stackTraces = false) : okMj l n0 sa sv 173 := by
  intro C nL h
  obtain ⟨rfl, rfl⟩ : C_X12_need = C ∧ 2 = nL := Prod.mk.injEq _ _ _ _ ▸ Option.some.inj h
  exact ⟨rfl, plain_ok (by decide), rfl, (fun h => by cases h), fun s args h1 h2 => pm_T_of hl cl_all ar_all ik_X12_need ck_X12_need s args h1 h2⟩
theorem ok_174 (hl : l.stackTraces = false) : okMj l n0 sa sv 174 := by
  intro C nL h
  obtain ⟨rfl, rfl⟩ : C_X12_number = C ∧ 4 = nL := Prod.mk.injEq _ _ _ _ ▸ Option.some.inj h
  exact ⟨rfl, plain_ok (by decide), rfl, (fun h => by cases h), fun s args h1 h2 => pm_T_of hl cl_all ar_all ik_X12_number ck_X12_number s args h1 h2⟩
theorem ok_175 (hl : l.stackTraces = false) : okMj l n0 sa sv 175 := by
  intro C nL h
  obtain ⟨rfl, rfl⟩ : C_X12_cellHere = C ∧ 1 = nL := Prod.mk.injEq _ _ _ _ ▸ Option.some.inj h
  exact ⟨rfl, plain_ok (by decide), rfl, (fun h => by cases h), fun s args h1 h2 => pm_T_of hl cl_all ar_all ik_X12_cellHere ck_X12_cellHere s args h1 h2⟩
theorem ok_176 (hl : l.stackTraces = false) : okMj l n0 sa sv 176 := by
  intro C nL h
  obtain ⟨rfl, rfl⟩ : C_X12_puts = C ∧ 2 = nL := Prod.mk.injEq _ _ _ _ ▸ Option.some.inj h
  exact ⟨rfl, plain_ok (by decide), rfl, (fun h => by cases h), fun s args h1 h2 => pm_T_of hl cl_all ar_all ik_X12_puts ck_X12_puts s args h1 h2⟩
theorem ok_177 (hl : l.stackTraces = false) : okMj l n0 sa sv 177 := by
  intro C nL h
  obtain ⟨rfl, rfl⟩ : C_X12_isOpen = C ∧ 1 = nL := Prod.mk.injEq _ _ _ _ ▸ Option.some.inj h
  exact ⟨rfl, plain_ok (by decide), rfl, (fun h => by cases h), fun s args h1 h2 => pm_T_of hl cl_all ar_all ik_X12_isOpen ck_X12_isOpen s args h1 h2⟩
theorem ok_178 (hl : l.stackTraces = false) : okMj l n0 sa sv 178 := by
  intro C nL h
  obtain ⟨rfl, rfl⟩ : C_X12_strength = C ∧ 1 = nL := Prod.mk.injEq _ _ _ _ ▸ Option.some.inj h
  exact ⟨rfl, plain_ok (by decide), rfl, (fun h => by cases h), fun s args h1 h2 => pm_T_of hl cl_all ar_all ik_X12_strength ck_X12_strength s args h1 h2⟩
theorem ok_179 (hl : l.stackTraces = false) : okMj l n0 sa sv 179 := by
  intro C nL h
  obtain ⟨rfl, rfl⟩ : C_X12_drops = C ∧ 2 = nL := Prod.mk.injEq _ _ _ _ ▸ Option.some.inj h
  exact ⟨rfl, plain_ok (by decide), rfl, (fun h => by cases h), fun s args h1 h2 => pm_T_of hl cl_all ar_all ik_X12_drops ck_X12_drops s args h1 h2⟩
theorem ok_180 (hl : l.stackTraces = false) : okMj l n0 sa sv 180 := by
  intro C nL h
  obtain ⟨rfl, rfl⟩ : C_X12_waitsFor = C ∧ 2 = nL := Prod.mk.injEq _ _ _ _ ▸ Option.some.inj h
  exact ⟨rfl, plain_ok (by decide), rfl, (fun h => by cases h), fun s args h1 h2 => pm_T_of hl cl_all ar_all ik_X12_waitsFor ck_X12_waitsFor s args h1 h2⟩
theorem ok_181 (hl : l.stackTraces = false) : okMj l n0 sa sv 181 := by
  intro C nL h
  obtain ⟨rfl, rfl⟩ : C_X12_part = C ∧ 2 = nL := Prod.mk.injEq _ _ _ _ ▸ Option.some.inj h
  exact ⟨rfl, plain_ok (by decide), rfl, (fun h => by cases h), fun s args h1 h2 => pm_T_of hl cl_all ar_all ik_X12_part ck_X12_part s args h1 h2⟩
theorem ok_182 (hl : l.stackTraces = false) : okMj l n0 sa sv 182 := by
  intro C nL h
  obtain ⟨rfl, rfl⟩ : C_X12_deeper = C ∧ 1 = nL := Prod.mk.injEq _ _ _ _ ▸ Option.some.inj h
  exact ⟨rfl, plain_ok (by decide), rfl, (fun h => by cases h), fun s args h1 h2 => pm_T_of hl cl_all ar_all ik_X12_deeper ck_X12_deeper s args h1 h2⟩
theorem ok_183 (hl : l.stackTraces = false) : okMj l n0 sa sv 183 := by
  intro C nL h
  obtain ⟨rfl, rfl⟩ : C_X12_operand = C ∧ 5 = nL := Prod.mk.injEq _ _ _ _ ▸ Option.some.inj h
  exact ⟨rfl, plain_ok (by decide), rfl, (fun h => by cases h), fun s args h1 h2 => pm_T_of hl cl_all ar_all ik_X12_operand ck_X12_operand s args h1 h2⟩
theorem ok_184 (hl : l.stackTraces = false) : okMj l n0 sa sv 184 := by
  intro C nL h
  obtain ⟨rfl, rfl⟩ : C_X12_isOpened = C ∧ 2 = nL := Prod.mk.injEq _ _ _ _ ▸ Option.some.inj h
  exact ⟨rfl, plain_ok (by decide), rfl, (fun h => by cases h), fun s args h1 h2 => pm_T_of hl cl_all ar_all ik_X12_isOpened ck_X12_isOpened s args h1 h2⟩
theorem ok_185 (hl : l.stackTraces = false) : okMj l n0 sa sv 185 := by
  intro C nL h
  obtain ⟨rfl, rfl⟩ : C_X12_closes = C ∧ 1 = nL := Prod.mk.injEq _ _ _ _ ▸ Option.some.inj h
  exact ⟨rfl, plain_ok (by decide), rfl, (fun h => by cases h), fun s args h1 h2 => pm_T_of hl cl_all ar_all ik_X12_closes ck_X12_closes s args h1 h2⟩
theorem ok_186 (hl : l.stackTraces = false) : okMj l n0 sa sv 186 := by
  intro C nL h
  obtain ⟨rfl, rfl⟩ : C_X12_expression = C ∧ 5 = nL := Prod.mk.injEq _ _ _ _ ▸ Option.some.inj h
  exact ⟨rfl, plain_ok (by decide), rfl, (fun h => by cases h), fun s args h1 h2 => pm_T_of hl cl_all ar_all ik_X12_expression ck_X12_expression s args h1 h2⟩
theorem ok_187 (hl : l.stackTraces = false) : okMj l n0 sa sv 187 := by
  intro C nL h
  obtain ⟨rfl, rfl⟩ : C_X12_begins = C ∧ 3 = nL := Prod.mk.injEq _ _ _ _ ▸ Option.some.inj h
  exact ⟨rfl, plain_ok (by decide), rfl, (fun h => by cases h), fun s args h1 h2 => pm_T_of hl cl_all ar_all ik_X12_begins ck_X12_begins s args h1 h2⟩
theorem ok_188 (hl : l.stackTraces = false) : okMj l n0 sa sv 188 := by
  intro C nL h
  obtain ⟨rfl, rfl⟩ : C_X12_readsWall = C ∧ 3 = nL := Prod.mk.injEq _ _ _ _ ▸ Option.some.inj h
  exact ⟨rfl, plain_ok (by decide), rfl, (fun h => by cases h), fun s args h1 h2 => pm_T_of hl cl_all ar_all ik_X12_readsWall ck_X12_readsWall s args h1 h2⟩
theorem ok_189 (hl : l.stackTraces = false) : okMj l n0 sa sv 189 := by
  intro C nL h
  obtain ⟨rfl, rfl⟩ : C_X12_readsFigure = C ∧ 5 = nL := Prod.mk.injEq _ _ _ _ ▸ Option.some.inj h
  exact ⟨rfl, plain_ok (by decide), rfl, (fun h => by cases h), fun s args h1 h2 => pm_T_of hl cl_all ar_all ik_X12_readsFigure ck_X12_readsFigure s args h1 h2⟩
theorem ok_190 (hl : l.stackTraces = false) : okMj l n0 sa sv 190 := by
  intro C nL h
  obtain ⟨rfl, rfl⟩ : C_X12_readsSeat = C ∧ 1 = nL := Prod.mk.injEq _ _ _ _ ▸ Option.some.inj h
  exact ⟨rfl, plain_ok (by decide), rfl, (fun h => by cases h), fun s args h1 h2 => pm_T_of hl cl_all ar_all ik_X12_readsSeat ck_X12_readsSeat s args h1 h2⟩
theorem ok_191 (hl : l.stackTraces = false) : okMj l n0 sa sv 191 := by
  intro C nL h
  obtain ⟨rfl, rfl⟩ : C_X12_readsLight = C ∧ 3 = nL := Prod.mk.injEq _ _ _ _ ▸ Option.some.inj h
  exact ⟨rfl, plain_ok (by decide), rfl, (fun h => by cases h), fun s args h1 h2 => pm_T_of hl cl_all ar_all ik_X12_readsLight ck_X12_readsLight s args h1 h2⟩
theorem ok_192 (hl : l.stackTraces = false) : okMj l n0 sa sv 192 := by
  intro C nL h
  obtain ⟨rfl, rfl⟩ : C_X12_line = C ∧ 2 = nL := Prod.mk.injEq _ _ _ _ ▸ Option.some.inj h
  exact ⟨rfl, plain_ok (by decide), rfl, (fun h => by cases h), fun s args h1 h2 => pm_T_of hl cl_all ar_all ik_X12_line ck_X12_line s args h1 h2⟩
theorem ok_193 (hl : l.stackTraces = false) : okMj l n0 sa sv 193 := by
  intro C nL h
  obtain ⟨rfl, rfl⟩ : C_X12_town = C ∧ 3 = nL := Prod.mk.injEq _ _ _ _ ▸ Option.some.inj h
  exact ⟨rfl, plain_ok (by decide), rfl, (fun h => by cases h), fun s args h1 h2 => pm_T_of hl cl_all ar_all ik_X12_town ck_X12_town s args h1 h2⟩
theorem ok_194 (hl : l.stackTraces = false) : okMj l n0 sa sv 194 := by
  intro C nL h
  obtain ⟨rfl, rfl⟩ : C_X12_fault = C ∧ 1 = nL := Prod.mk.injEq _ _ _ _ ▸ Option.some.inj h
  exact ⟨rfl, plain_ok (by decide), rfl, (fun h => by cases h), fun s args h1 h2 => pm_T_of hl cl_all ar_all ik_X12_fault ck_X12_fault s args h1 h2⟩
theorem ok_195 (hl : l.stackTraces = false) : okMj l n0 sa sv 195 := by
  intro C nL h
  obtain ⟨rfl, rfl⟩ : C_X12_keeps = C ∧ 2 = nL := Prod.mk.injEq _ _ _ _ ▸ Option.some.inj h
  exact ⟨rfl, plain_ok (by decide), rfl, (fun h => by cases h), fun s args h1 h2 => pm_T_of hl cl_all ar_all ik_X12_keeps ck_X12_keeps s args h1 h2⟩
theorem ok_196 (hl : l.stackTraces = false) : okMj l n0 sa sv 196 := by
  intro C nL h
  obtain ⟨rfl, rfl⟩ : C_X12_refuses = C ∧ 2 = nL := Prod.mk.injEq _ _ _ _ ▸ Option.some.inj h
  exact ⟨rfl, plain_ok (by decide), rfl, (fun h => by cases h), fun s args h1 h2 => pm_T_of hl cl_all ar_all ik_X12_refuses ck_X12_refuses s args h1 h2⟩
theorem ok_197 (hl : l.stackTraces = false) : okMj l n0 sa sv 197 := by
  intro C nL h
  obtain ⟨rfl, rfl⟩ : C_X12_undo = C ∧ 2 = nL := Prod.mk.injEq _ _ _ _ ▸ Option.some.inj h
  exact ⟨rfl, plain_ok (by decide), rfl, (fun h => by cases h), fun s args h1 h2 => pm_T_of hl cl_all ar_all ik_X12_undo ck_X12_undo s args h1 h2⟩
theorem ok_198 (hl : l.stackTraces = false) : okMj l n0 sa sv 198 := by
  intro C nL h
  obtain ⟨rfl, rfl⟩ : C_X12_tries = C ∧ 2 = nL := Prod.mk.injEq _ _ _ _ ▸ Option.some.inj h
  exact ⟨rfl, plain_ok (by decide), rfl, (fun h => by cases h), fun s args h1 h2 => pm_T_of hl cl_all ar_all ik_X12_tries ck_X12_tries s args h1 h2⟩
theorem ok_199 (hl : l.stackTraces = false) : okMj l n0 sa sv 199 := by
  intro C nL h
  obtain ⟨rfl, rfl⟩ : C_X12_works = C ∧ 3 = nL := Prod.mk.injEq _ _ _ _ ▸ Option.some.inj h
  exact ⟨rfl, plain_ok (by decide), rfl, (fun h => by cases h), fun s args h1 h2 => pm_T_of hl cl_all ar_all ik_X12_works ck_X12_works s args h1 h2⟩
theorem ok_200 (hl : l.stackTraces = false) : okMj l n0 sa sv 200 := by
  intro C nL h
  obtain ⟨rfl, rfl⟩ : C_X12_reckons = C ∧ 5 = nL := Prod.mk.injEq _ _ _ _ ▸ Option.some.inj h
  exact ⟨rfl, plain_ok (by decide), rfl, (fun h => by cases h), fun s args h1 h2 => pm_T_of hl cl_all ar_all ik_X12_reckons ck_X12_reckons s args h1 h2⟩
theorem ok_201 (hl : l.stackTraces = false) : okMj l n0 sa sv 201 := by
  intro C nL h
  obtain ⟨rfl, rfl⟩ : C_X12_lightAt = C ∧ 2 = nL := Prod.mk.injEq _ _ _ _ ▸ Option.some.inj h
  exact ⟨rfl, plain_ok (by decide), rfl, (fun h => by cases h), fun s args h1 h2 => pm_T_of hl cl_all ar_all ik_X12_lightAt ck_X12_lightAt s args h1 h2⟩
theorem ok_202 (hl : l.stackTraces = false) : okMj l n0 sa sv 202 := by
  intro C nL h
  obtain ⟨rfl, rfl⟩ : C_X12_isDull = C ∧ 2 = nL := Prod.mk.injEq _ _ _ _ ▸ Option.some.inj h
  exact ⟨rfl, plain_ok (by decide), rfl, (fun h => by cases h), fun s args h1 h2 => pm_T_of hl cl_all ar_all ik_X12_isDull ck_X12_isDull s args h1 h2⟩
theorem ok_203 (hl : l.stackTraces = false) : okMj l n0 sa sv 203 := by
  intro C nL h
  obtain ⟨rfl, rfl⟩ : C_X12_atCell = C ∧ 5 = nL := Prod.mk.injEq _ _ _ _ ▸ Option.some.inj h
  exact ⟨rfl, plain_ok (by decide), rfl, (fun h => by cases h), fun s args h1 h2 => pm_T_of hl cl_all ar_all ik_X12_atCell ck_X12_atCell s args h1 h2⟩
theorem ok_204 (hl : l.stackTraces = false) : okMj l n0 sa sv 204 := by
  intro C nL h
  obtain ⟨rfl, rfl⟩ : C_X12_withIt = C ∧ 3 = nL := Prod.mk.injEq _ _ _ _ ▸ Option.some.inj h
  exact ⟨rfl, plain_ok (by decide), rfl, (fun h => by cases h), fun s args h1 h2 => pm_T_of hl cl_all ar_all ik_X12_withIt ck_X12_withIt s args h1 h2⟩
theorem ok_205 (hl : l.stackTraces = false) : okMj l n0 sa sv 205 := by
  intro C nL h
  obtain ⟨rfl, rfl⟩ : C_X12_stepOf = C ∧ 3 = nL := Prod.mk.injEq _ _ _ _ ▸ Option.some.inj h
  exact ⟨rfl, plain_ok (by decide), rfl, (fun h => by cases h), fun s args h1 h2 => pm_T_of hl cl_all ar_all ik_X12_stepOf ck_X12_stepOf s args h1 h2⟩
theorem ok_206 (hl : l.stackTraces = false) : okMj l n0 sa sv 206 := by
  intro C nL h
  obtain ⟨rfl, rfl⟩ : C_X12_tells = C ∧ 3 = nL := Prod.mk.injEq _ _ _ _ ▸ Option.some.inj h
  exact ⟨rfl, plain_ok (by decide), rfl, (fun h => by cases h), fun s args h1 h2 => pm_T_of hl cl_all ar_all ik_X12_tells ck_X12_tells s args h1 h2⟩
theorem ok_207 (hl : l.stackTraces = false) : okMj l n0 sa sv 207 := by
  intro C nL h
  obtain ⟨rfl, rfl⟩ : C_X12_hurtsBy = C ∧ 3 = nL := Prod.mk.injEq _ _ _ _ ▸ Option.some.inj h
  exact ⟨rfl, plain_ok (by decide), rfl, (fun h => by cases h), fun s args h1 h2 => pm_T_of hl cl_all ar_all ik_X12_hurtsBy ck_X12_hurtsBy s args h1 h2⟩
theorem ok_208 (hl : l.stackTraces = false) : okMj l n0 sa sv 208 := by
  intro C nL h
  obtain ⟨rfl, rfl⟩ : C_X12_isGoing = C ∧ 3 = nL := Prod.mk.injEq _ _ _ _ ▸ Option.some.inj h
  exact ⟨rfl, plain_ok (by decide), rfl, (fun h => by cases h), fun s args h1 h2 => pm_T_of hl cl_all ar_all ik_X12_isGoing ck_X12_isGoing s args h1 h2⟩
theorem ok_209 (hl : l.stackTraces = false) : okMj l n0 sa sv 209 := by
  intro C nL h
  obtain ⟨rfl, rfl⟩ : C_X12_beside = C ∧ 3 = nL := Prod.mk.injEq _ _ _ _ ▸ Option.some.inj h
  exact ⟨rfl, plain_ok (by decide), rfl, (fun h => by cases h), fun s args h1 h2 => pm_T_of hl cl_all ar_all ik_X12_beside ck_X12_beside s args h1 h2⟩
theorem ok_210 (hl : l.stackTraces = false) : okMj l n0 sa sv 210 := by
  intro C nL h
  obtain ⟨rfl, rfl⟩ : C_X12_figureGoes = C ∧ 4 = nL := Prod.mk.injEq _ _ _ _ ▸ Option.some.inj h
  exact ⟨rfl, plain_ok (by decide), rfl, (fun h => by cases h), fun s args h1 h2 => pm_T_of hl cl_all ar_all ik_X12_figureGoes ck_X12_figureGoes s args h1 h2⟩
theorem ok_211 (hl : l.stackTraces = false) : okMj l n0 sa sv 211 := by
  intro C nL h
  obtain ⟨rfl, rfl⟩ : C_X12_hourGoes = C ∧ 3 = nL := Prod.mk.injEq _ _ _ _ ▸ Option.some.inj h
  exact ⟨rfl, plain_ok (by decide), rfl, (fun h => by cases h), fun s args h1 h2 => pm_T_of hl cl_all ar_all ik_X12_hourGoes ck_X12_hourGoes s args h1 h2⟩
theorem ok_212 (hl : l.stackTraces = false) : okMj l n0 sa sv 212 := by
  intro C nL h
  obtain ⟨rfl, rfl⟩ : C_X12_hoursGo = C ∧ 3 = nL := Prod.mk.injEq _ _ _ _ ▸ Option.some.inj h
  exact ⟨rfl, plain_ok (by decide), rfl, (fun h => by cases h), fun s args h1 h2 => pm_T_of hl cl_all ar_all ik_X12_hoursGo ck_X12_hoursGo s args h1 h2⟩
theorem ok_213 (hl : l.stackTraces = false) : okMj l n0 sa sv 213 := by
  intro C nL h
  obtain ⟨rfl, rfl⟩ : C_X12_sumOf = C ∧ 6 = nL := Prod.mk.injEq _ _ _ _ ▸ Option.some.inj h
  exact ⟨rfl, plain_ok (by decide), rfl, (fun h => by cases h), fun s args h1 h2 => pm_T_of hl cl_all ar_all ik_X12_sumOf ck_X12_sumOf s args h1 h2⟩
theorem ok_214 (hl : l.stackTraces = false) : okMj l n0 sa sv 214 := by
  intro C nL h
  obtain ⟨rfl, rfl⟩ : C_X12_heldOnes = C ∧ 3 = nL := Prod.mk.injEq _ _ _ _ ▸ Option.some.inj h
  exact ⟨rfl, plain_ok (by decide), rfl, (fun h => by cases h), fun s args h1 h2 => pm_T_of hl cl_all ar_all ik_X12_heldOnes ck_X12_heldOnes s args h1 h2⟩
theorem ok_215 (hl : l.stackTraces = false) : okMj l n0 sa sv 215 := by
  intro C nL h
  obtain ⟨rfl, rfl⟩ : C_X12_laysFar = C ∧ 7 = nL := Prod.mk.injEq _ _ _ _ ▸ Option.some.inj h
  exact ⟨rfl, plain_ok (by decide), rfl, (fun h => by cases h), fun s args h1 h2 => pm_T_of hl cl_all ar_all ik_X12_laysFar ck_X12_laysFar s args h1 h2⟩
theorem ok_216 (hl : l.stackTraces = false) : okMj l n0 sa sv 216 := by
  intro C nL h
  obtain ⟨rfl, rfl⟩ : C_X12_parts = C ∧ 5 = nL := Prod.mk.injEq _ _ _ _ ▸ Option.some.inj h
  exact ⟨rfl, plain_ok (by decide), rfl, (fun h => by cases h), fun s args h1 h2 => pm_T_of hl cl_all ar_all ik_X12_parts ck_X12_parts s args h1 h2⟩
theorem ok_217 (hl : l.stackTraces = false) : okMj l n0 sa sv 217 := by
  intro C nL h
  obtain ⟨rfl, rfl⟩ : C_X12_count = C ∧ 2 = nL := Prod.mk.injEq _ _ _ _ ▸ Option.some.inj h
  exact ⟨rfl, plain_ok (by decide), rfl, (fun h => by cases h), fun s args h1 h2 => pm_T_of hl cl_all ar_all ik_X12_count ck_X12_count s args h1 h2⟩
theorem ok_218 (hl : l.stackTraces = false) : okMj l n0 sa sv 218 := by
  intro C nL h
  obtain ⟨rfl, rfl⟩ : C_X12_isFigure = C ∧ 2 = nL := Prod.mk.injEq _ _ _ _ ▸ Option.some.inj h
  exact ⟨rfl, plain_ok (by decide), rfl, (fun h => by cases h), fun s args h1 h2 => pm_T_of hl cl_all ar_all ik_X12_isFigure ck_X12_isFigure s args h1 h2⟩
theorem ok_219 (hl : l.stackTraces = false) : okMj l n0 sa sv 219 := by
  intro C nL h
  obtain ⟨rfl, rfl⟩ : C_X12_isCell = C ∧ 2 = nL := Prod.mk.injEq _ _ _ _ ▸ Option.some.inj h
  exact ⟨rfl, plain_ok (by decide), rfl, (fun h => by cases h), fun s args h1 h2 => pm_T_of hl cl_all ar_all ik_X12_isCell ck_X12_isCell s args h1 h2⟩
theorem ok_220 (hl : l.stackTraces = false) : okMj l n0 sa sv 220 := by
  intro C nL h
  obtain ⟨rfl, rfl⟩ : C_X12_isWhat = C ∧ 3 = nL := Prod.mk.injEq _ _ _ _ ▸ Option.some.inj h
  exact ⟨rfl, plain_ok (by decide), rfl, (fun h => by cases h), fun s args h1 h2 => pm_T_of hl cl_all ar_all ik_X12_isWhat ck_X12_isWhat s args h1 h2⟩
theorem ok_221 (hl : l.stackTraces = false) : okMj l n0 sa sv 221 := by
  intro C nL h
  obtain ⟨rfl, rfl⟩ : C_X12_isSoon = C ∧ 4 = nL := Prod.mk.injEq _ _ _ _ ▸ Option.some.inj h
  exact ⟨rfl, plain_ok (by decide), rfl, (fun h => by cases h), fun s args h1 h2 => pm_T_of hl cl_all ar_all ik_X12_isSoon ck_X12_isSoon s args h1 h2⟩
theorem ok_222 (hl : l.stackTraces = false) : okMj l n0 sa sv 222 := by
  intro C nL h
  obtain ⟨rfl, rfl⟩ : C_X12_figure = C ∧ 3 = nL := Prod.mk.injEq _ _ _ _ ▸ Option.some.inj h
  exact ⟨rfl, plain_ok (by decide), rfl, (fun h => by cases h), fun s args h1 h2 => pm_T_of hl cl_all ar_all ik_X12_figure ck_X12_figure s args h1 h2⟩
theorem ok_223 (hl : l.stackTraces = false) : okMj l n0 sa sv 223 := by
  intro C nL h
  obtain ⟨rfl, rfl⟩ : C_X12_seenFrom = C ∧ 5 = nL := Prod.mk.injEq _ _ _ _ ▸ Option.some.inj h
  exact ⟨rfl, plain_ok (by decide), rfl, (fun h => by cases h), fun s args h1 h2 => pm_T_of hl cl_all ar_all ik_X12_seenFrom ck_X12_seenFrom s args h1 h2⟩
theorem ok_224 (hl : l.stackTraces = false) : okMj l n0 sa sv 224 := by
  intro C nL h
  obtain ⟨rfl, rfl⟩ : C_X12_cell = C ∧ 5 = nL := Prod.mk.injEq _ _ _ _ ▸ Option.some.inj h
  exact ⟨rfl, plain_ok (by decide), rfl, (fun h => by cases h), fun s args h1 h2 => pm_T_of hl cl_all ar_all ik_X12_cell ck_X12_cell s args h1 h2⟩
theorem ok_225 (hl : l.stackTraces = false) : okMj l n0 sa sv 225 := by
  intro C nL h
  obtain ⟨rfl, rfl⟩ : C_X12_hours = C ∧ 3 = nL := Prod.mk.injEq _ _ _ _ ▸ Option.some.inj h
  exact ⟨rfl, plain_ok (by decide), rfl, (fun h => by cases h), fun s args h1 h2 => pm_T_of hl cl_all ar_all ik_X12_hours ck_X12_hours s args h1 h2⟩
theorem ok_226 (hl : l.stackTraces = false) : okMj l n0 sa sv 226 := by
  intro C nL h
  obtain ⟨rfl, rfl⟩ : C_X12_stop = C ∧ 3 = nL := Prod.mk.injEq _ _ _ _ ▸ Option.some.inj h
  exact ⟨rfl, plain_ok (by decide), rfl, (fun h => by cases h), fun s args h1 h2 => pm_T_of hl cl_all ar_all ik_X12_stop ck_X12_stop s args h1 h2⟩
theorem ok_227 (hl : l.stackTraces = false) : okMj l n0 sa sv 227 := by
  intro C nL h
  obtain ⟨rfl, rfl⟩ : C_X12_lift = C ∧ 4 = nL := Prod.mk.injEq _ _ _ _ ▸ Option.some.inj h
  exact ⟨rfl, plain_ok (by decide), rfl, (fun h => by cases h), fun s args h1 h2 => pm_T_of hl cl_all ar_all ik_X12_lift ck_X12_lift s args h1 h2⟩
theorem ok_228 (hl : l.stackTraces = false) : okMj l n0 sa sv 228 := by
  intro C nL h
  obtain ⟨rfl, rfl⟩ : C_X12_brush = C ∧ 3 = nL := Prod.mk.injEq _ _ _ _ ▸ Option.some.inj h
  exact ⟨rfl, plain_ok (by decide), rfl, (fun h => by cases h), fun s args h1 h2 => pm_T_of hl cl_all ar_all ik_X12_brush ck_X12_brush s args h1 h2⟩
theorem ok_229 (hl : l.stackTraces = false) : okMj l n0 sa sv 229 := by
  intro C nL h
  obtain ⟨rfl, rfl⟩ : C_X12_wall = C ∧ 5 = nL := Prod.mk.injEq _ _ _ _ ▸ Option.some.inj h
  exact ⟨rfl, plain_ok (by decide), rfl, (fun h => by cases h), fun s args h1 h2 => pm_T_of hl cl_all ar_all ik_X12_wall ck_X12_wall s args h1 h2⟩
theorem ok_230 (hl : l.stackTraces = false) : okMj l n0 sa sv 230 := by
  intro C nL h
  obtain ⟨rfl, rfl⟩ : C_X12_goesTo = C ∧ 2 = nL := Prod.mk.injEq _ _ _ _ ▸ Option.some.inj h
  exact ⟨rfl, plain_ok (by decide), rfl, (fun h => by cases h), fun s args h1 h2 => pm_T_of hl cl_all ar_all ik_X12_goesTo ck_X12_goesTo s args h1 h2⟩
theorem ok_231 (hl : l.stackTraces = false) : okMj l n0 sa sv 231 := by
  intro C nL h
  obtain ⟨rfl, rfl⟩ : C_X12_then = C ∧ 4 = nL := Prod.mk.injEq _ _ _ _ ▸ Option.some.inj h
  exact ⟨rfl, plain_ok (by decide), rfl, (fun h => by cases h), fun s args h1 h2 => pm_T_of hl cl_all ar_all ik_X12_then ck_X12_then s args h1 h2⟩
theorem ok_232 (hl : l.stackTraces = false) : okMj l n0 sa sv 232 := by
  intro C nL h
  obtain ⟨rfl, rfl⟩ : C_X12_comes = C ∧ 4 = nL := Prod.mk.injEq _ _ _ _ ▸ Option.some.inj h
  exact ⟨rfl, plain_ok (by decide), rfl, (fun h => by cases h), fun s args h1 h2 => pm_T_of hl cl_all ar_all ik_X12_comes ck_X12_comes s args h1 h2⟩
theorem ok_233 (hl : l.stackTraces = false) : okMj l n0 sa sv 233 := by
  intro C nL h
  obtain ⟨rfl, rfl⟩ : C_X12_meet = C ∧ 4 = nL := Prod.mk.injEq _ _ _ _ ▸ Option.some.inj h
  exact ⟨rfl, plain_ok (by decide), rfl, (fun h => by cases h), fun s args h1 h2 => pm_T_of hl cl_all ar_all ik_X12_meet ck_X12_meet s args h1 h2⟩
theorem ok_234 (hl : l.stackTraces = false) : okMj l n0 sa sv 234 := by
  intro C nL h
  obtain ⟨rfl, rfl⟩ : C_X12_mostOften = C ∧ 3 = nL := Prod.mk.injEq _ _ _ _ ▸ Option.some.inj h
  exact ⟨rfl, plain_ok (by decide), rfl, (fun h => by cases h), fun s args h1 h2 => pm_T_of hl cl_all ar_all ik_X12_mostOften ck_X12_mostOften s args h1 h2⟩
theorem ok_235 (hl : l.stackTraces = false) : okMj l n0 sa sv 235 := by
  intro C nL h
  obtain ⟨rfl, rfl⟩ : C_X12_clears = C ∧ 2 = nL := Prod.mk.injEq _ _ _ _ ▸ Option.some.inj h
  exact ⟨rfl, plain_ok (by decide), rfl, (fun h => by cases h), fun s args h1 h2 => pm_T_of hl cl_all ar_all ik_X12_clears ck_X12_clears s args h1 h2⟩
theorem ok_236 (hl : l.stackTraces = false) : okMj l n0 sa sv 236 := by
  intro C nL h
  obtain ⟨rfl, rfl⟩ : C_X12_marks = C ∧ 2 = nL := Prod.mk.injEq _ _ _ _ ▸ Option.some.inj h
  exact ⟨rfl, plain_ok (by decide), rfl, (fun h => by cases h), fun s args h1 h2 => pm_T_of hl cl_all ar_all ik_X12_marks ck_X12_marks s args h1 h2⟩
theorem ok_237 (hl : l.stackTraces = false) : okMj l n0 sa sv 237 := by
  intro C nL h
  obtain ⟨rfl, rfl⟩ : C_X12_crowd = C ∧ 4 = nL := Prod.mk.injEq _ _ _ _ ▸ Option.some.inj h
  exact ⟨rfl, plain_ok (by decide), rfl, (fun h => by cases h), fun s args h1 h2 => pm_T_of hl cl_all ar_all ik_X12_crowd ck_X12_crowd s args h1 h2⟩
theorem ok_238 (hl : l.stackTraces = false) : okMj l n0 sa sv 238 := by
  intro C nL h
  obtain ⟨rfl, rfl⟩ : C_X12_areAsNow = C ∧ 3 = nL := Prod.mk.injEq _ _ _ _ ▸ Option.some.inj h
  exact ⟨rfl, plain_ok (by decide), rfl, (fun h => by cases h), fun s args h1 h2 => pm_T_of hl cl_all ar_all ik_X12_areAsNow ck_X12_areAsNow s args h1 h2⟩
theorem ok_239 (hl : l.stackTraces = false) : okMj l n0 sa sv 239 := by
  intro C nL h
  obtain ⟨rfl, rfl⟩ : C_X12_round = C ∧ 2 = nL := Prod.mk.injEq _ _ _ _ ▸ Option.some.inj h
  exact ⟨rfl, plain_ok (by decide), rfl, (fun h => by cases h), fun s args h1 h2 => pm_T_of hl cl_all ar_all ik_X12_round ck_X12_round s args h1 h2⟩
theorem ok_240 (hl : l.stackTraces = false) : okMj l n0 sa sv 240 := by
  intro C nL h
  obtain ⟨rfl, rfl⟩ : C_X12_spread = C ∧ 5 = nL := Prod.mk.injEq _ _ _ _ ▸ Option.some.inj h
  exact ⟨rfl, plain_ok (by decide), rfl, (fun h => by cases h), fun s args h1 h2 => pm_T_of hl cl_all ar_all ik_X12_spread ck_X12_spread s args h1 h2⟩
theorem ok_241 (hl : l.stackTraces = false) : okMj l n0 sa sv 241 := by
  intro C nL h
  obtain ⟨rfl, rfl⟩ : C_X12_later = C ∧ 7 = nL := Prod.mk.injEq _ _ _ _ ▸ Option.some.inj h
  exact ⟨rfl, plain_ok (by decide), rfl, (fun h => by cases h), fun s args h1 h2 => pm_T_of hl cl_all ar_all ik_X12_later ck_X12_later s args h1 h2⟩
theorem ok_242 (hl : l.stackTraces = false) : okMj l n0 sa sv 242 := by
  intro C nL h
  obtain ⟨rfl, rfl⟩ : C_X12_together = C ∧ 6 = nL := Prod.mk.injEq _ _ _ _ ▸ Option.some.inj h
  exact ⟨rfl, plain_ok (by decide), rfl, (fun h => by cases h), fun s args h1 h2 => pm_T_of hl cl_all ar_all ik_X12_together ck_X12_together s args h1 h2⟩
theorem ok_243 (hl : l.stackTraces = false) : okMj l n0 sa sv 243 := by
  intro C nL h
  obtain ⟨rfl, rfl⟩ : C_X12_quiet = C ∧ 5 = nL := Prod.mk.injEq _ _ _ _ ▸ Option.some.inj h
  exact ⟨rfl, plain_ok (by decide), rfl, (fun h => by cases h), fun s args h1 h2 => pm_T_of hl cl_all ar_all ik_X12_quiet ck_X12_quiet s args h1 h2⟩
theorem ok_244 (hl : l.stackTraces = false) : okMj l n0 sa sv 244 := by
  intro C nL h
  obtain ⟨rfl, rfl⟩ : C_X12_gone = C ∧ 6 = nL := Prod.mk.injEq _ _ _ _ ▸ Option.some.inj h
  exact ⟨rfl, plain_ok (by decide), rfl, (fun h => by cases h), fun s args h1 h2 => pm_T_of hl cl_all ar_all ik_X12_gone ck_X12_gone s args h1 h2⟩
theorem ok_245 (hl : l.stackTraces = false) : okMj l n0 sa sv 245 := by
  intro C nL h
  obtain ⟨rfl, rfl⟩ : C_X12_way = C ∧ 7 = nL := Prod.mk.injEq _ _ _ _ ▸ Option.some.inj h
  exact ⟨rfl, plain_ok (by decide), rfl, (fun h => by cases h), fun s args h1 h2 => pm_T_of hl cl_all ar_all ik_X12_way ck_X12_way s args h1 h2⟩
theorem ok_246 (hl : l.stackTraces = false) : okMj l n0 sa sv 246 := by
  intro C nL h
  obtain ⟨rfl, rfl⟩ : C_X12_toStop = C ∧ 5 = nL := Prod.mk.injEq _ _ _ _ ▸ Option.some.inj h
  exact ⟨rfl, plain_ok (by decide), rfl, (fun h => by cases h), fun s args h1 h2 => pm_T_of hl cl_all ar_all ik_X12_toStop ck_X12_toStop s args h1 h2⟩
theorem ok_247 (hl : l.stackTraces = false) : okMj l n0 sa sv 247 := by
  intro C nL h
  obtain ⟨rfl, rfl⟩ : C_X12_toThin = C ∧ 6 = nL := Prod.mk.injEq _ _ _ _ ▸ Option.some.inj h
  exact ⟨rfl, plain_ok (by decide), rfl, (fun h => by cases h), fun s args h1 h2 => pm_T_of hl cl_all ar_all ik_X12_toThin ck_X12_toThin s args h1 h2⟩
theorem ok_248 (hl : l.stackTraces = false) : okMj l n0 sa sv 248 := by
  intro C nL h
  obtain ⟨rfl, rfl⟩ : C_X12_sits = C ∧ 4 = nL := Prod.mk.injEq _ _ _ _ ▸ Option.some.inj h
  exact ⟨rfl, plain_ok (by decide), rfl, (fun h => by cases h), fun s args h1 h2 => pm_T_of hl cl_all ar_all ik_X12_sits ck_X12_sits s args h1 h2⟩
theorem ok_249 (hl : l.stackTraces = false) : okMj l n0 sa sv 249 := by
  intro C nL h
  obtain ⟨rfl, rfl⟩ : C_X12_canSit = C ∧ 4 = nL := Prod.mk.injEq _ _ _ _ ▸ Option.some.inj h
  exact ⟨rfl, plain_ok (by decide), rfl, (fun h => by cases h), fun s args h1 h2 => pm_T_of hl cl_all ar_all ik_X12_canSit ck_X12_canSit s args h1 h2⟩
theorem ok_250 (hl : l.stackTraces = false) : okMj l n0 sa sv 250 := by
  intro C nL h
  obtain ⟨rfl, rfl⟩ : C_X12_laysSeats = C ∧ 5 = nL := Prod.mk.injEq _ _ _ _ ▸ Option.some.inj h
  exact ⟨rfl, plain_ok (by decide), rfl, (fun h => by cases h), fun s args h1 h2 => pm_T_of hl cl_all ar_all ik_X12_laysSeats ck_X12_laysSeats s args h1 h2⟩
theorem ok_251 (hl : l.stackTraces = false) : okMj l n0 sa sv 251 := by
  intro C nL h
  obtain ⟨rfl, rfl⟩ : C_X12_seats = C ∧ 2 = nL := Prod.mk.injEq _ _ _ _ ▸ Option.some.inj h
  exact ⟨rfl, plain_ok (by decide), rfl, (fun h => by cases h), fun s args h1 h2 => pm_T_of hl cl_all ar_all ik_X12_seats ck_X12_seats s args h1 h2⟩
theorem ok_252 (hl : l.stackTraces = false) : okMj l n0 sa sv 252 := by
  intro C nL h
  obtain ⟨rfl, rfl⟩ : C_X12_seat = C ∧ 6 = nL := Prod.mk.injEq _ _ _ _ ▸ Option.some.inj h
  exact ⟨rfl, plain_ok (by decide), rfl, (fun h => by cases h), fun s args h1 h2 => pm_T_of hl cl_all ar_all ik_X12_seat ck_X12_seat s args h1 h2⟩
theorem ok_253 (hl : l.stackTraces = false) : okMj l n0 sa sv 253 := by
  intro C nL h
  obtain ⟨rfl, rfl⟩ : C_X12_note = C ∧ 4 = nL := Prod.mk.injEq _ _ _ _ ▸ Option.some.inj h
  exact ⟨rfl, plain_ok (by decide), rfl, (fun h => by cases h), fun s args h1 h2 => pm_T_of hl cl_all ar_all ik_X12_note ck_X12_note s args h1 h2⟩
theorem ok_254 (hl : l.stackTraces = false) : okMj l n0 sa sv 254 := by
  intro C nL h
  obtain ⟨rfl, rfl⟩ : C_X12_forget = C ∧ 1 = nL := Prod.mk.injEq _ _ _ _ ▸ Option.some.inj h
  exact ⟨rfl, plain_ok (by decide), rfl, (fun h => by cases h), fun s args h1 h2 => pm_T_of hl cl_all ar_all ik_X12_forget ck_X12_forget s args h1 h2⟩
theorem ok_255 (hl : l.stackTraces = false) : okMj l n0 sa sv 255 := by
  intro C nL h
  obtain ⟨rfl, rfl⟩ : C_X12_isNoted = C ∧ 3 = nL := Prod.mk.injEq _ _ _ _ ▸ Option.some.inj h
  exact ⟨rfl, plain_ok (by decide), rfl, (fun h => by cases h), fun s args h1 h2 => pm_T_of hl cl_all ar_all ik_X12_isNoted ck_X12_isNoted s args h1 h2⟩
theorem ok_256 (hl : l.stackTraces = false) : okMj l n0 sa sv 256 := by
  intro C nL h
  obtain ⟨rfl, rfl⟩ : C_X12_isGuess = C ∧ 3 = nL := Prod.mk.injEq _ _ _ _ ▸ Option.some.inj h
  exact ⟨rfl, plain_ok (by decide), rfl, (fun h => by cases h), fun s args h1 h2 => pm_T_of hl cl_all ar_all ik_X12_isGuess ck_X12_isGuess s args h1 h2⟩
theorem ok_257 (hl : l.stackTraces = false) : okMj l n0 sa sv 257 := by
  intro C nL h
  obtain ⟨rfl, rfl⟩ : C_X12_ahead = C ∧ 5 = nL := Prod.mk.injEq _ _ _ _ ▸ Option.some.inj h
  exact ⟨rfl, plain_ok (by decide), rfl, (fun h => by cases h), fun s args h1 h2 => pm_T_of hl cl_all ar_all ik_X12_ahead ck_X12_ahead s args h1 h2⟩
theorem ok_258 (hl : l.stackTraces = false) : okMj l n0 sa sv 258 := by
  intro C nL h
  obtain ⟨rfl, rfl⟩ : C_X12_look = C ∧ 10 = nL := Prod.mk.injEq _ _ _ _ ▸ Option.some.inj h
  exact ⟨rfl, plain_ok (by decide), rfl, (fun h => by cases h), fun s args h1 h2 => pm_T_of hl cl_all ar_all ik_X12_look ck_X12_look s args h1 h2⟩
theorem ok_259 (hl : l.stackTraces = false) : okMj l n0 sa sv 259 := by
  intro C nL h
  obtain ⟨rfl, rfl⟩ : C_X12_clouds = C ∧ 9 = nL := Prod.mk.injEq _ _ _ _ ▸ Option.some.inj h
  exact ⟨rfl, plain_ok (by decide), rfl, (fun h => by cases h), fun s args h1 h2 => pm_T_of hl cl_all ar_all ik_X12_clouds ck_X12_clouds s args h1 h2⟩
theorem ok_260 (hl : l.stackTraces = false) : okMj l n0 sa sv 260 := by
  intro C nL h
  obtain ⟨rfl, rfl⟩ : C_X12_gains = C ∧ 7 = nL := Prod.mk.injEq _ _ _ _ ▸ Option.some.inj h
  exact ⟨rfl, plain_ok (by decide), rfl, (fun h => by cases h), fun s args h1 h2 => pm_T_of hl cl_all ar_all ik_X12_gains ck_X12_gains s args h1 h2⟩
theorem ok_261 (hl : l.stackTraces = false) : okMj l n0 sa sv 261 := by
  intro C nL h
  obtain ⟨rfl, rfl⟩ : C_X12_game = C ∧ 9 = nL := Prod.mk.injEq _ _ _ _ ▸ Option.some.inj h
  exact ⟨rfl, plain_ok (by decide), rfl, (fun h => by cases h), fun s args h1 h2 => pm_T_of hl cl_all ar_all ik_X12_game ck_X12_game s args h1 h2⟩
theorem ok_262 (hl : l.stackTraces = false) : okMj l n0 sa sv 262 := by
  intro C nL h
  obtain ⟨rfl, rfl⟩ : C_X12_draw = C ∧ 2 = nL := Prod.mk.injEq _ _ _ _ ▸ Option.some.inj h
  exact ⟨rfl, plain_ok (by decide), rfl, (fun h => by cases h), fun s args h1 h2 => pm_T_of hl cl_all ar_all ik_X12_draw ck_X12_draw s args h1 h2⟩
theorem ok_263 (hl : l.stackTraces = false) : okMj l n0 sa sv 263 := by
  intro C nL h
  obtain ⟨rfl, rfl⟩ : C_X12_happens = C ∧ 4 = nL := Prod.mk.injEq _ _ _ _ ▸ Option.some.inj h
  exact ⟨rfl, plain_ok (by decide), rfl, (fun h => by cases h), fun s args h1 h2 => pm_T_of hl cl_all ar_all ik_X12_happens ck_X12_happens s args h1 h2⟩
theorem ok_264 (hl : l.stackTraces = false) : okMj l n0 sa sv 264 := by
  intro C nL h
  obtain ⟨rfl, rfl⟩ : C_X12_years = C ∧ 8 = nL := Prod.mk.injEq _ _ _ _ ▸ Option.some.inj h
  exact ⟨rfl, plain_ok (by decide), rfl, (fun h => by cases h), fun s args h1 h2 => pm_T_of hl cl_all ar_all ik_X12_years ck_X12_years s args h1 h2⟩
theorem ok_265 (hl : l.stackTraces = false) : okMj l n0 sa sv 265 := by
  intro C nL h
  obtain ⟨rfl, rfl⟩ : C_X12_image = C ∧ 2 = nL := Prod.mk.injEq _ _ _ _ ▸ Option.some.inj h
  exact ⟨rfl, plain_ok (by decide), rfl, (fun h => by cases h), fun s args h1 h2 => pm_T_of hl cl_all ar_all ik_X12_image ck_X12_image s args h1 h2⟩
theorem ok_266 (hl : l.stackTraces = false) : okMj l n0 sa sv 266 := by
  intro C nL h
  obtain ⟨rfl, rfl⟩ : C_X12_restore = C ∧ 2 = nL := Prod.mk.injEq _ _ _ _ ▸ Option.some.inj h
  exact ⟨rfl, plain_ok (by decide), rfl, (fun h => by cases h), fun s args h1 h2 => pm_T_of hl cl_all ar_all ik_X12_restore ck_X12_restore s args h1 h2⟩
theorem ok_267 (hl : l.stackTraces = false) : okMj l n0 sa sv 267 := by
  intro C nL h
  obtain ⟨rfl, rfl⟩ : C_J6_bitCount_0f7a4 = C ∧ 1 = nL := Prod.mk.injEq _ _ _ _ ▸ Option.some.inj h
  exact ⟨rfl, plain_ok (by decide), rfl, (fun h => by cases h), fun s args h1 h2 => pm_T_of hl cl_all ar_all ik_J6_bitCount_0f7a4 ck_J6_bitCount_0f7a4 s args h1 h2⟩
theorem ok_268 (hl : l.stackTraces = false) : okMj l n0 sa sv 268 := by
  intro C nL h
  obtain ⟨rfl, rfl⟩ : C_J13_bitCount_95d88 = C ∧ 2 = nL := Prod.mk.injEq _ _ _ _ ▸ Option.some.inj h
  exact ⟨rfl, plain_ok (by decide), rfl, (fun h => by cases h), fun s args h1 h2 => pm_T_of hl cl_all ar_all ik_J13_bitCount_95d88 ck_J13_bitCount_95d88 s args h1 h2⟩
theorem ok_269 (hl : l.stackTraces = false) : okMj l n0 sa sv 269 := by
  intro C nL h
  obtain ⟨rfl, rfl⟩ : C_J7_fill_d0a16 = C ∧ 5 = nL := Prod.mk.injEq _ _ _ _ ▸ Option.some.inj h
  exact ⟨rfl, plain_ok (by decide), rfl, (fun h => by cases h), fun s args h1 h2 => pm_T_of hl cl_all ar_all ik_J7_fill_d0a16 ck_J7_fill_d0a16 s args h1 h2⟩
theorem ok_270 (hl : l.stackTraces = false) : okMj l n0 sa sv 270 := by
  intro C nL h
  obtain ⟨rfl, rfl⟩ : C_J7_fill_53178 = C ∧ 4 = nL := Prod.mk.injEq _ _ _ _ ▸ Option.some.inj h
  exact ⟨rfl, plain_ok (by decide), rfl, (fun h => by cases h), fun s args h1 h2 => pm_T_of hl cl_all ar_all ik_J7_fill_53178 ck_J7_fill_53178 s args h1 h2⟩
end
theorem ok_c0 {l : Launch} (hl : l.stackTraces = false) (n0 : Nat) (sa sv : Nat → Nat) : ∀ j ∈ [0, 1, 2, 3, 4, 5, 6, 7, 8, 9, 10, 11, 12, 13, 14, 15, 16, 17, 18, 19, 20, 21, 22], okMj l n0 sa sv j := List.forall_mem_cons.mpr ⟨ok_0 n0 sa sv hl, List.forall_mem_cons.mpr ⟨ok_1 n0 sa sv hl, List.forall_mem_cons.mpr ⟨ok_2 n0 sa sv hl, List.forall_mem_cons.mpr ⟨ok_3 n0 sa sv hl, List.forall_mem_cons.mpr ⟨ok_4 n0 sa sv hl, List.forall_mem_cons.mpr ⟨ok_5 n0 sa sv hl, List.forall_mem_cons.mpr ⟨ok_6 n0 sa sv hl, List.forall_mem_cons.mpr ⟨ok_7 n0 sa sv hl, List.forall_mem_cons.mpr ⟨ok_8 n0 sa sv hl, List.forall_mem_cons.mpr ⟨ok_9 n0 sa sv hl, List.forall_mem_cons.mpr ⟨ok_10 n0 sa sv hl, List.forall_mem_cons.mpr ⟨ok_11 n0 sa sv hl, List.forall_mem_cons.mpr ⟨ok_12 n0 sa sv hl, List.forall_mem_cons.mpr ⟨ok_13 n0 sa sv hl, List.forall_mem_cons.mpr ⟨ok_14 n0 sa sv hl, List.forall_mem_cons.mpr ⟨ok_15 n0 sa sv hl, List.forall_mem_cons.mpr ⟨ok_16 n0 sa sv hl, List.forall_mem_cons.mpr ⟨ok_17 n0 sa sv hl, List.forall_mem_cons.mpr ⟨ok_18 n0 sa sv hl, List.forall_mem_cons.mpr ⟨ok_19 n0 sa sv hl, List.forall_mem_cons.mpr ⟨ok_20 n0 sa sv hl, List.forall_mem_cons.mpr ⟨ok_21 n0 sa sv hl, List.forall_mem_cons.mpr ⟨ok_22 n0 sa sv hl, fun _ h => absurd h List.not_mem_nil⟩⟩⟩⟩⟩⟩⟩⟩⟩⟩⟩⟩⟩⟩⟩⟩⟩⟩⟩⟩⟩⟩⟩
theorem ok_c1 {l : Launch} (hl : l.stackTraces = false) (n0 : Nat) (sa sv : Nat → Nat) : ∀ j ∈ [23, 24, 25, 26, 27, 28, 29, 30, 31, 32, 33, 34, 35, 36, 37, 38, 39, 40, 41, 42, 43, 44, 45], okMj l n0 sa sv j := List.forall_mem_cons.mpr ⟨ok_23 n0 sa sv hl, List.forall_mem_cons.mpr ⟨ok_24 n0 sa sv hl, List.forall_mem_cons.mpr ⟨ok_25 n0 sa sv hl, List.forall_mem_cons.mpr ⟨ok_26 n0 sa sv hl, List.forall_mem_cons.mpr ⟨ok_27 n0 sa sv hl, List.forall_mem_cons.mpr ⟨ok_28 n0 sa sv hl, List.forall_mem_cons.mpr ⟨ok_29 n0 sa sv hl, List.forall_mem_cons.mpr ⟨ok_30 n0 sa sv hl, List.forall_mem_cons.mpr ⟨ok_31 n0 sa sv hl, List.forall_mem_cons.mpr ⟨ok_32 n0 sa sv hl, List.forall_mem_cons.mpr ⟨ok_33 n0 sa sv hl, List.forall_mem_cons.mpr ⟨ok_34 n0 sa sv hl, List.forall_mem_cons.mpr ⟨ok_35 n0 sa sv hl, List.forall_mem_cons.mpr ⟨ok_36 n0 sa sv hl, List.forall_mem_cons.mpr ⟨ok_37 n0 sa sv hl, List.forall_mem_cons.mpr ⟨ok_38 n0 sa sv hl, List.forall_mem_cons.mpr ⟨ok_39 n0 sa sv hl, List.forall_mem_cons.mpr ⟨ok_40 n0 sa sv hl, List.forall_mem_cons.mpr ⟨ok_41 n0 sa sv hl, List.forall_mem_cons.mpr ⟨ok_42 n0 sa sv hl, List.forall_mem_cons.mpr ⟨ok_43 n0 sa sv hl, List.forall_mem_cons.mpr ⟨ok_44 n0 sa sv hl, List.forall_mem_cons.mpr ⟨ok_45 n0 sa sv hl, fun _ h => absurd h List.not_mem_nil⟩⟩⟩⟩⟩⟩⟩⟩⟩⟩⟩⟩⟩⟩⟩⟩⟩⟩⟩⟩⟩⟩⟩
theorem ok_c2 {l : Launch} (hl : l.stackTraces = false) (n0 : Nat) (sa sv : Nat → Nat) : ∀ j ∈ [46, 47, 48, 49, 50, 51, 52, 53, 54, 55, 56, 57, 58, 59, 60, 61, 62, 63, 64, 65, 66, 67, 68], okMj l n0 sa sv j := List.forall_mem_cons.mpr ⟨ok_46 n0 sa sv hl, List.forall_mem_cons.mpr ⟨ok_47 n0 sa sv hl, List.forall_mem_cons.mpr ⟨ok_48 n0 sa sv hl, List.forall_mem_cons.mpr ⟨ok_49 n0 sa sv hl, List.forall_mem_cons.mpr ⟨ok_50 n0 sa sv hl, List.forall_mem_cons.mpr ⟨ok_51 n0 sa sv hl, List.forall_mem_cons.mpr ⟨ok_52 n0 sa sv hl, List.forall_mem_cons.mpr ⟨ok_53 n0 sa sv hl, List.forall_mem_cons.mpr ⟨ok_54 n0 sa sv hl, List.forall_mem_cons.mpr ⟨ok_55 n0 sa sv hl, List.forall_mem_cons.mpr ⟨ok_56 n0 sa sv hl, List.forall_mem_cons.mpr ⟨ok_57 n0 sa sv hl, List.forall_mem_cons.mpr ⟨ok_58 n0 sa sv hl, List.forall_mem_cons.mpr ⟨ok_59 n0 sa sv hl, List.forall_mem_cons.mpr ⟨ok_60 n0 sa sv hl, List.forall_mem_cons.mpr ⟨ok_61 n0 sa sv hl, List.forall_mem_cons.mpr ⟨ok_62 n0 sa sv hl, List.forall_mem_cons.mpr ⟨ok_63 n0 sa sv hl, List.forall_mem_cons.mpr ⟨ok_64 n0 sa sv hl, List.forall_mem_cons.mpr ⟨ok_65 n0 sa sv hl, List.forall_mem_cons.mpr ⟨ok_66 n0 sa sv hl, List.forall_mem_cons.mpr ⟨ok_67 n0 sa sv hl, List.forall_mem_cons.mpr ⟨ok_68 n0 sa sv hl, fun _ h => absurd h List.not_mem_nil⟩⟩⟩⟩⟩⟩⟩⟩⟩⟩⟩⟩⟩⟩⟩⟩⟩⟩⟩⟩⟩⟩⟩
theorem ok_c3 {l : Launch} (hl : l.stackTraces = false) (n0 : Nat) (sa sv : Nat → Nat) : ∀ j ∈ [69, 70, 71, 72, 73, 74, 75, 76, 77, 78, 79, 80, 81, 82, 83, 84, 85, 86, 87, 88, 89, 90, 91], okMj l n0 sa sv j := List.forall_mem_cons.mpr ⟨ok_69 n0 sa sv hl, List.forall_mem_cons.mpr ⟨ok_70 n0 sa sv hl, List.forall_mem_cons.mpr ⟨ok_71 n0 sa sv hl, List.forall_mem_cons.mpr ⟨ok_72 n0 sa sv hl, List.forall_mem_cons.mpr ⟨ok_73 n0 sa sv hl, List.forall_mem_cons.mpr ⟨ok_74 n0 sa sv hl, List.forall_mem_cons.mpr ⟨ok_75 n0 sa sv hl, List.forall_mem_cons.mpr ⟨ok_76 n0 sa sv hl, List.forall_mem_cons.mpr ⟨ok_77 n0 sa sv hl, List.forall_mem_cons.mpr ⟨ok_78 n0 sa sv hl, List.forall_mem_cons.mpr ⟨ok_79 n0 sa sv hl, List.forall_mem_cons.mpr ⟨ok_80 n0 sa sv hl, List.forall_mem_cons.mpr ⟨ok_81 n0 sa sv hl, List.forall_mem_cons.mpr ⟨ok_82 n0 sa sv hl, List.forall_mem_cons.mpr ⟨ok_83 n0 sa sv hl, List.forall_mem_cons.mpr ⟨ok_84 n0 sa sv hl, List.forall_mem_cons.mpr ⟨ok_85 n0 sa sv hl, List.forall_mem_cons.mpr ⟨ok_86 n0 sa sv hl, List.forall_mem_cons.mpr ⟨ok_87 n0 sa sv hl, List.forall_mem_cons.mpr ⟨ok_88 n0 sa sv hl, List.forall_mem_cons.mpr ⟨ok_89 n0 sa sv hl, List.forall_mem_cons.mpr ⟨ok_90 n0 sa sv hl, List.forall_mem_cons.mpr ⟨ok_91 n0 sa sv hl, fun _ h => absurd h List.not_mem_nil⟩⟩⟩⟩⟩⟩⟩⟩⟩⟩⟩⟩⟩⟩⟩⟩⟩⟩⟩⟩⟩⟩⟩
theorem ok_c4 {l : Launch} (hl : l.stackTraces = false) (n0 : Nat) (sa sv : Nat → Nat) : ∀ j ∈ [92, 93, 94, 95, 96, 97, 98, 99, 100, 101, 102, 103, 104, 105, 106, 107, 108, 109, 110, 111, 112, 113, 114], okMj l n0 sa sv j := List.forall_mem_cons.mpr ⟨ok_92 n0 sa sv hl, List.forall_mem_cons.mpr ⟨ok_93 n0 sa sv hl, List.forall_mem_cons.mpr ⟨ok_94 n0 sa sv hl, List.forall_mem_cons.mpr ⟨ok_95 n0 sa sv hl, List.forall_mem_cons.mpr ⟨ok_96 n0 sa sv hl, List.forall_mem_cons.mpr ⟨ok_97 n0 sa sv hl, List.forall_mem_cons.mpr ⟨ok_98 n0 sa sv hl, List.forall_mem_cons.mpr ⟨ok_99 n0 sa sv hl, List.forall_mem_cons.mpr ⟨ok_100 n0 sa sv hl, List.forall_mem_cons.mpr ⟨ok_101 n0 sa sv hl, List.forall_mem_cons.mpr ⟨ok_102 n0 sa sv hl, List.forall_mem_cons.mpr ⟨ok_103 n0 sa sv hl, List.forall_mem_cons.mpr ⟨ok_104 n0 sa sv hl, List.forall_mem_cons.mpr ⟨ok_105 n0 sa sv hl, List.forall_mem_cons.mpr ⟨ok_106 n0 sa sv hl, List.forall_mem_cons.mpr ⟨ok_107 n0 sa sv hl, List.forall_mem_cons.mpr ⟨ok_108 n0 sa sv hl, List.forall_mem_cons.mpr ⟨ok_109 n0 sa sv hl, List.forall_mem_cons.mpr ⟨ok_110 n0 sa sv hl, List.forall_mem_cons.mpr ⟨ok_111 n0 sa sv hl, List.forall_mem_cons.mpr ⟨ok_112 n0 sa sv hl, List.forall_mem_cons.mpr ⟨ok_113 n0 sa sv hl, List.forall_mem_cons.mpr ⟨ok_114 n0 sa sv hl, fun _ h => absurd h List.not_mem_nil⟩⟩⟩⟩⟩⟩⟩⟩⟩⟩⟩⟩⟩⟩⟩⟩⟩⟩⟩⟩⟩⟩⟩
theorem ok_c5 {l : Launch} (hl : l.stackTraces = false) (n0 : Nat) (sa sv : Nat → Nat) : ∀ j ∈ [115, 116, 117, 118, 119, 120, 121, 122, 123, 124, 125, 126, 127, 128, 129, 130, 131, 132, 133, 134, 135, 136, 137], okMj l n0 sa sv j := List.forall_mem_cons.mpr ⟨ok_115 n0 sa sv hl, List.forall_mem_cons.mpr ⟨ok_116 n0 sa sv hl, List.forall_mem_cons.mpr ⟨ok_117 n0 sa sv hl, List.forall_mem_cons.mpr ⟨ok_118 n0 sa sv hl, List.forall_mem_cons.mpr ⟨ok_119 n0 sa sv hl, List.forall_mem_cons.mpr ⟨ok_120 n0 sa sv hl, List.forall_mem_cons.mpr ⟨ok_121 n0 sa sv hl, List.forall_mem_cons.mpr ⟨ok_122 n0 sa sv hl, List.forall_mem_cons.mpr ⟨ok_123 n0 sa sv hl, List.forall_mem_cons.mpr ⟨ok_124 n0 sa sv hl, List.forall_mem_cons.mpr ⟨ok_125 n0 sa sv hl, List.forall_mem_cons.mpr ⟨ok_126 n0 sa sv hl, List.forall_mem_cons.mpr ⟨ok_127 n0 sa sv hl, List.forall_mem_cons.mpr ⟨ok_128 n0 sa sv hl, List.forall_mem_cons.mpr ⟨ok_129 n0 sa sv hl, List.forall_mem_cons.mpr ⟨ok_130 n0 sa sv hl, List.forall_mem_cons.mpr ⟨ok_131 n0 sa sv hl, List.forall_mem_cons.mpr ⟨ok_132 n0 sa sv hl, List.forall_mem_cons.mpr ⟨ok_133 n0 sa sv hl, List.forall_mem_cons.mpr ⟨ok_134 n0 sa sv hl, List.forall_mem_cons.mpr ⟨ok_135 n0 sa sv hl, List.forall_mem_cons.mpr ⟨ok_136 n0 sa sv hl, List.forall_mem_cons.mpr ⟨ok_137 n0 sa sv hl, fun _ h => absurd h List.not_mem_nil⟩⟩⟩⟩⟩⟩⟩⟩⟩⟩⟩⟩⟩⟩⟩⟩⟩⟩⟩⟩⟩⟩⟩
theorem ok_c6 {l : Launch} (hl : l.stackTraces = false) (n0 : Nat) (sa sv : Nat → Nat) : ∀ j ∈ [138, 139, 140, 141, 142, 143, 144, 145, 146, 147, 148, 149, 150, 151, 152, 153, 154, 155, 156, 157, 158, 159, 160], okMj l n0 sa sv j := List.forall_mem_cons.mpr ⟨ok_138 n0 sa sv hl, List.forall_mem_cons.mpr ⟨ok_139 n0 sa sv hl, List.forall_mem_cons.mpr ⟨ok_140 n0 sa sv hl, List.forall_mem_cons.mpr ⟨ok_141 n0 sa sv hl, List.forall_mem_cons.mpr ⟨ok_142 n0 sa sv hl, List.forall_mem_cons.mpr ⟨ok_143 n0 sa sv hl, List.forall_mem_cons.mpr ⟨ok_144 n0 sa sv hl, List.forall_mem_cons.mpr ⟨ok_145 n0 sa sv hl, List.forall_mem_cons.mpr ⟨ok_146 n0 sa sv hl, List.forall_mem_cons.mpr ⟨ok_147 n0 sa sv hl, List.forall_mem_cons.mpr ⟨ok_148 n0 sa sv hl, List.forall_mem_cons.mpr ⟨ok_149 n0 sa sv hl, List.forall_mem_cons.mpr ⟨ok_150 n0 sa sv hl, List.forall_mem_cons.mpr ⟨ok_151 n0 sa sv hl, List.forall_mem_cons.mpr ⟨ok_152 n0 sa sv hl, List.forall_mem_cons.mpr ⟨ok_153 n0 sa sv hl, List.forall_mem_cons.mpr ⟨ok_154 n0 sa sv hl, List.forall_mem_cons.mpr ⟨ok_155 n0 sa sv hl, List.forall_mem_cons.mpr ⟨ok_156 n0 sa sv hl, List.forall_mem_cons.mpr ⟨ok_157 n0 sa sv hl, List.forall_mem_cons.mpr ⟨ok_158 n0 sa sv hl, List.forall_mem_cons.mpr ⟨ok_159 n0 sa sv hl, List.forall_mem_cons.mpr ⟨ok_160 n0 sa sv hl, fun _ h => absurd h List.not_mem_nil⟩⟩⟩⟩⟩⟩⟩⟩⟩⟩⟩⟩⟩⟩⟩⟩⟩⟩⟩⟩⟩⟩⟩
theorem ok_c7 {l : Launch} (hl : l.stackTraces = false) (n0 : Nat) (sa sv : Nat → Nat) : ∀ j ∈ [161, 162, 163, 164, 165, 166, 167, 168, 169, 170, 171, 172, 173, 174, 175, 176, 177, 178, 179, 180, 181, 182, 183], okMj l n0 sa sv j := List.forall_mem_cons.mpr ⟨ok_161 n0 sa sv hl, List.forall_mem_cons.mpr ⟨ok_162 n0 sa sv hl, List.forall_mem_cons.mpr ⟨ok_163 n0 sa sv hl, List.forall_mem_cons.mpr ⟨ok_164 n0 sa sv hl, List.forall_mem_cons.mpr ⟨ok_165 n0 sa sv hl, List.forall_mem_cons.mpr ⟨ok_166 n0 sa sv hl, List.forall_mem_cons.mpr ⟨ok_167 n0 sa sv hl, List.forall_mem_cons.mpr ⟨ok_168 n0 sa sv hl, List.forall_mem_cons.mpr ⟨ok_169 n0 sa sv hl, List.forall_mem_cons.mpr ⟨ok_170 n0 sa sv hl, List.forall_mem_cons.mpr ⟨ok_171 n0 sa sv hl, List.forall_mem_cons.mpr ⟨ok_172 n0 sa sv hl, List.forall_mem_cons.mpr ⟨ok_173 n0 sa sv hl, List.forall_mem_cons.mpr ⟨ok_174 n0 sa sv hl, List.forall_mem_cons.mpr ⟨ok_175 n0 sa sv hl, List.forall_mem_cons.mpr ⟨ok_176 n0 sa sv hl, List.forall_mem_cons.mpr ⟨ok_177 n0 sa sv hl, List.forall_mem_cons.mpr ⟨ok_178 n0 sa sv hl, List.forall_mem_cons.mpr ⟨ok_179 n0 sa sv hl, List.forall_mem_cons.mpr ⟨ok_180 n0 sa sv hl, List.forall_mem_cons.mpr ⟨ok_181 n0 sa sv hl, List.forall_mem_cons.mpr ⟨ok_182 n0 sa sv hl, List.forall_mem_cons.mpr ⟨ok_183 n0 sa sv hl, fun _ h => absurd h List.not_mem_nil⟩⟩⟩⟩⟩⟩⟩⟩⟩⟩⟩⟩⟩⟩⟩⟩⟩⟩⟩⟩⟩⟩⟩
theorem ok_c8 {l : Launch} (hl : l.stackTraces = false) (n0 : Nat) (sa sv : Nat → Nat) : ∀ j ∈ [184, 185, 186, 187, 188, 189, 190, 191, 192, 193, 194, 195, 196, 197, 198, 199, 200, 201, 202, 203, 204, 205, 206], okMj l n0 sa sv j := List.forall_mem_cons.mpr ⟨ok_184 n0 sa sv hl, List.forall_mem_cons.mpr ⟨ok_185 n0 sa sv hl, List.forall_mem_cons.mpr ⟨ok_186 n0 sa sv hl, List.forall_mem_cons.mpr ⟨ok_187 n0 sa sv hl, List.forall_mem_cons.mpr ⟨ok_188 n0 sa sv hl, List.forall_mem_cons.mpr ⟨ok_189 n0 sa sv hl, List.forall_mem_cons.mpr ⟨ok_190 n0 sa sv hl, List.forall_mem_cons.mpr ⟨ok_191 n0 sa sv hl, List.forall_mem_cons.mpr ⟨ok_192 n0 sa sv hl, List.forall_mem_cons.mpr ⟨ok_193 n0 sa sv hl, List.forall_mem_cons.mpr ⟨ok_194 n0 sa sv hl, List.forall_mem_cons.mpr ⟨ok_195 n0 sa sv hl, List.forall_mem_cons.mpr ⟨ok_196 n0 sa sv hl, List.forall_mem_cons.mpr ⟨ok_197 n0 sa sv hl, List.forall_mem_cons.mpr ⟨ok_198 n0 sa sv hl, List.forall_mem_cons.mpr ⟨ok_199 n0 sa sv hl, List.forall_mem_cons.mpr ⟨ok_200 n0 sa sv hl, List.forall_mem_cons.mpr ⟨ok_201 n0 sa sv hl, List.forall_mem_cons.mpr ⟨ok_202 n0 sa sv hl, List.forall_mem_cons.mpr ⟨ok_203 n0 sa sv hl, List.forall_mem_cons.mpr ⟨ok_204 n0 sa sv hl, List.forall_mem_cons.mpr ⟨ok_205 n0 sa sv hl, List.forall_mem_cons.mpr ⟨ok_206 n0 sa sv hl, fun _ h => absurd h List.not_mem_nil⟩⟩⟩⟩⟩⟩⟩⟩⟩⟩⟩⟩⟩⟩⟩⟩⟩⟩⟩⟩⟩⟩⟩
theorem ok_c9 {l : Launch} (hl : l.stackTraces = false) (n0 : Nat) (sa sv : Nat → Nat) : ∀ j ∈ [207, 208, 209, 210, 211, 212, 213, 214, 215, 216, 217, 218, 219, 220, 221, 222, 223, 224, 225, 226, 227, 228, 229], okMj l n0 sa sv j := List.forall_mem_cons.mpr ⟨ok_207 n0 sa sv hl, List.forall_mem_cons.mpr ⟨ok_208 n0 sa sv hl, List.forall_mem_cons.mpr ⟨ok_209 n0 sa sv hl, List.forall_mem_cons.mpr ⟨ok_210 n0 sa sv hl, List.forall_mem_cons.mpr ⟨ok_211 n0 sa sv hl, List.forall_mem_cons.mpr ⟨ok_212 n0 sa sv hl, List.forall_mem_cons.mpr ⟨ok_213 n0 sa sv hl, List.forall_mem_cons.mpr ⟨ok_214 n0 sa sv hl, List.forall_mem_cons.mpr ⟨ok_215 n0 sa sv hl, List.forall_mem_cons.mpr ⟨ok_216 n0 sa sv hl, List.forall_mem_cons.mpr ⟨ok_217 n0 sa sv hl, List.forall_mem_cons.mpr ⟨ok_218 n0 sa sv hl, List.forall_mem_cons.mpr ⟨ok_219 n0 sa sv hl, List.forall_mem_cons.mpr ⟨ok_220 n0 sa sv hl, List.forall_mem_cons.mpr ⟨ok_221 n0 sa sv hl, List.forall_mem_cons.mpr ⟨ok_222 n0 sa sv hl, List.forall_mem_cons.mpr ⟨ok_223 n0 sa sv hl, List.forall_mem_cons.mpr ⟨ok_224 n0 sa sv hl, List.forall_mem_cons.mpr ⟨ok_225 n0 sa sv hl, List.forall_mem_cons.mpr ⟨ok_226 n0 sa sv hl, List.forall_mem_cons.mpr ⟨ok_227 n0 sa sv hl, List.forall_mem_cons.mpr ⟨ok_228 n0 sa sv hl, List.forall_mem_cons.mpr ⟨ok_229 n0 sa sv hl, fun _ h => absurd h List.not_mem_nil⟩⟩⟩⟩⟩⟩⟩⟩⟩⟩⟩⟩⟩⟩⟩⟩⟩⟩⟩⟩⟩⟩⟩
theorem ok_c10 {l : Launch} (hl : l.stackTraces = false) (n0 : Nat) (sa sv : Nat → Nat) : ∀ j ∈ [230, 231, 232, 233, 234, 235, 236, 237, 238, 239, 240, 241, 242, 243, 244, 245, 246, 247, 248, 249, 250, 251, 252], okMj l n0 sa sv j := List.forall_mem_cons.mpr ⟨ok_230 n0 sa sv hl, List.forall_mem_cons.mpr ⟨ok_231 n0 sa sv hl, List.forall_mem_cons.mpr ⟨ok_232 n0 sa sv hl, List.forall_mem_cons.mpr ⟨ok_233 n0 sa sv hl, List.forall_mem_cons.mpr ⟨ok_234 n0 sa sv hl, List.forall_mem_cons.mpr ⟨ok_235 n0 sa sv hl, List.forall_mem_cons.mpr ⟨ok_236 n0 sa sv hl, List.forall_mem_cons.mpr ⟨ok_237 n0 sa sv hl, List.forall_mem_cons.mpr ⟨ok_238 n0 sa sv hl, List.forall_mem_cons.mpr ⟨ok_239 n0 sa sv hl, List.forall_mem_cons.mpr ⟨ok_240 n0 sa sv hl, List.forall_mem_cons.mpr ⟨ok_241 n0 sa sv hl, List.forall_mem_cons.mpr ⟨ok_242 n0 sa sv hl, List.forall_mem_cons.mpr ⟨ok_243 n0 sa sv hl, List.forall_mem_cons.mpr ⟨ok_244 n0 sa sv hl, List.forall_mem_cons.mpr ⟨ok_245 n0 sa sv hl, List.forall_mem_cons.mpr ⟨ok_246 n0 sa sv hl, List.forall_mem_cons.mpr ⟨ok_247 n0 sa sv hl, List.forall_mem_cons.mpr ⟨ok_248 n0 sa sv hl, List.forall_mem_cons.mpr ⟨ok_249 n0 sa sv hl, List.forall_mem_cons.mpr ⟨ok_250 n0 sa sv hl, List.forall_mem_cons.mpr ⟨ok_251 n0 sa sv hl, List.forall_mem_cons.mpr ⟨ok_252 n0 sa sv hl, fun _ h => absurd h List.not_mem_nil⟩⟩⟩⟩⟩⟩⟩⟩⟩⟩⟩⟩⟩⟩⟩⟩⟩⟩⟩⟩⟩⟩⟩
theorem ok_c11 {l : Launch} (hl : l.stackTraces = false) (n0 : Nat) (sa sv : Nat → Nat) : ∀ j ∈ [253, 254, 255, 256, 257, 258, 259, 260, 261, 262, 263, 264, 265, 266, 267, 268, 269, 270], okMj l n0 sa sv j := List.forall_mem_cons.mpr ⟨ok_253 n0 sa sv hl, List.forall_mem_cons.mpr ⟨ok_254 n0 sa sv hl, List.forall_mem_cons.mpr ⟨ok_255 n0 sa sv hl, List.forall_mem_cons.mpr ⟨ok_256 n0 sa sv hl, List.forall_mem_cons.mpr ⟨ok_257 n0 sa sv hl, List.forall_mem_cons.mpr ⟨ok_258 n0 sa sv hl, List.forall_mem_cons.mpr ⟨ok_259 n0 sa sv hl, List.forall_mem_cons.mpr ⟨ok_260 n0 sa sv hl, List.forall_mem_cons.mpr ⟨ok_261 n0 sa sv hl, List.forall_mem_cons.mpr ⟨ok_262 n0 sa sv hl, List.forall_mem_cons.mpr ⟨ok_263 n0 sa sv hl, List.forall_mem_cons.mpr ⟨ok_264 n0 sa sv hl, List.forall_mem_cons.mpr ⟨ok_265 n0 sa sv hl, List.forall_mem_cons.mpr ⟨ok_266 n0 sa sv hl, List.forall_mem_cons.mpr ⟨ok_267 n0 sa sv hl, List.forall_mem_cons.mpr ⟨ok_268 n0 sa sv hl, List.forall_mem_cons.mpr ⟨ok_269 n0 sa sv hl, List.forall_mem_cons.mpr ⟨ok_270 n0 sa sv hl, fun _ h => absurd h List.not_mem_nil⟩⟩⟩⟩⟩⟩⟩⟩⟩⟩⟩⟩⟩⟩⟩⟩⟩⟩
def mjs : List Nat := [0, 1, 2, 3, 4, 5, 6, 7, 8, 9, 10, 11, 12, 13, 14, 15, 16, 17, 18, 19, 20, 21, 22] ++ ([23, 24, 25, 26, 27, 28, 29, 30, 31, 32, 33, 34, 35, 36, 37, 38, 39, 40, 41, 42, 43, 44, 45] ++ ([46, 47, 48, 49, 50, 51, 52, 53, 54, 55, 56, 57, 58, 59, 60, 61, 62, 63, 64, 65, 66, 67, 68] ++ ([69, 70, 71, 72, 73, 74, 75, 76, 77, 78, 79, 80, 81, 82, 83, 84, 85, 86, 87, 88, 89, 90, 91] ++ ([92, 93, 94, 95, 96, 97, 98, 99, 100, 101, 102, 103, 104, 105, 106, 107, 108, 109, 110, 111, 112, 113, 114] ++ ([115, 116, 117, 118, 119, 120, 121, 122, 123, 124, 125, 126, 127, 128, 129, 130, 131, 132, 133, 134, 135, 136, 137] ++ ([138, 139, 140, 141, 142, 143, 144, 145, 146, 147, 148, 149, 150, 151, 152, 153, 154, 155, 156, 157, 158, 159, 160] ++ ([161, 162, 163, 164, 165, 166, 167, 168, 169, 170, 171, 172, 173, 174, 175, 176, 177, 178, 179, 180, 181, 182, 183] ++ ([184, 185, 186, 187, 188, 189, 190, 191, 192, 193, 194, 195, 196, 197, 198, 199, 200, 201, 202, 203, 204, 205, 206] ++ ([207, 208, 209, 210, 211, 212, 213, 214, 215, 216, 217, 218, 219, 220, 221, 222, 223, 224, 225, 226, 227, 228, 229] ++ ([230, 231, 232, 233, 234, 235, 236, 237, 238, 239, 240, 241, 242, 243, 244, 245, 246, 247, 248, 249, 250, 251, 252] ++ ([253, 254, 255, 256, 257, 258, 259, 260, 261, 262, 263, 264, 265, 266, 267, 268, 269, 270])))))))))))
theorem ok_js {l : Launch} (hl : l.stackTraces = false) (n0 : Nat) (sa sv : Nat → Nat) : ∀ j ∈ mjs, okMj l n0 sa sv j := List.forall_mem_append.mpr ⟨ok_c0 hl n0 sa sv, List.forall_mem_append.mpr ⟨ok_c1 hl n0 sa sv, List.forall_mem_append.mpr ⟨ok_c2 hl n0 sa sv, List.forall_mem_append.mpr ⟨ok_c3 hl n0 sa sv, List.forall_mem_append.mpr ⟨ok_c4 hl n0 sa sv, List.forall_mem_append.mpr ⟨ok_c5 hl n0 sa sv, List.forall_mem_append.mpr ⟨ok_c6 hl n0 sa sv, List.forall_mem_append.mpr ⟨ok_c7 hl n0 sa sv, List.forall_mem_append.mpr ⟨ok_c8 hl n0 sa sv, List.forall_mem_append.mpr ⟨ok_c9 hl n0 sa sv, List.forall_mem_append.mpr ⟨ok_c10 hl n0 sa sv, ok_c11 hl n0 sa sv⟩⟩⟩⟩⟩⟩⟩⟩⟩⟩⟩
theorem mjs_all : ∀ j, j < 271 → j ∈ mjs := by decide +kernel
theorem mtab_len : mtab.length = 271 := by decide +kernel
theorem M_lt {j : Nat} {q : pC × Nat} (h : M j = some q) : j < 271 := mtab_len ▸ (List.getElem?_eq_some_iff.mp h).1
/-- THE CARRYING OVER, with this claim's tables -/
theorem sound {l : Launch} (hl : l.stackTraces = false) {D : va_G} {n0 : Nat} {sa sv : Nat → Nat} {ck : Nat → ClassId} {ext : pCall} (hE : ∀ d j as S Q, 8 ≤ d → M j = none → ext j as S Q → pm_Met l D n0 sa ck (GG n0 sa sv) TW Y cost (d + 1) j as S Q) : ∀ d j as S Q, pm_call M cost ext d j as S Q → pm_Met l D n0 sa ck (GG n0 sa sv) TW Y cost d j as S Q :=
  pm_sound (GG_m n0 sa sv) (fun j C nL h => ok_js hl n0 sa sv j (mjs_all j (M_lt h)) C nL h) hE
