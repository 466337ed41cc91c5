/-! printed by wip/whole/gen.py: the links of the tables, and constants -/
def OFS : List (Nat × Nat × Nat × Nat) := [(1, 1, 2, 0), (1, 2, 10, 3), (1, 3, 10, 9), (1, 4, 10, 15), (1, 5, 10, 3), (3, 1, 10, 5), (3, 2, 10, 5), (3, 3, 5, 0), (3, 5, 10, 64), (3, 6, 5, 0), (4, 1, 3, 0), (4, 9, 10, 3), (4, 10, 10, 8), (4, 11, 14, 8), (4, 20, 10, 45), (4, 21, 10, 46), (5, 1, 10, 64)]
theorem ofs_all : ∀ t ∈ OFS, ∀ a, a < NC → SHk a = t.1 → SHk (a + t.2.1) = t.2.2.1 ∧ LN (a + t.2.1) = t.2.2.2 := by decide +kernel
theorem st_all : ∀ a, a < NC → SHk a = 4 → ∀ j, j < 8 → SHk (a + 12 + j) = 10 ∧ LN (a + 12 + j) = 45 := by decide +kernel
theorem hl_all : ∀ j, j < 3 → SHk (120 + 22 * j) = 4 := by decide +kernel
theorem bk_all : ∀ j, j < 40 → SHk (77 + j) = 10 ∧ LN (77 + j) = 45 := by decide +kernel
theorem rw_all : ∀ j, j < 4 → SHk (64 + j) = 12 ∧ LN (64 + j) = 60 := by decide +kernel
theorem inb_lt {i : Int32} {n : Nat} (h : inb i n = true) : i.toNatClampNeg < n := by
  simp only [inb, Bool.and_eq_true, decide_eq_true_eq] at h
  exact h.2
theorem st_el {a : Nat} {i : Int32} (h : SHk a = 4) (hi : inb i 8 = true) : SHk (a + 12 + i.toNatClampNeg) = 10 ∧ LN (a + 12 + i.toNatClampNeg) = 45 := st_all a (sh_lt h (by decide)) h _ (inb_lt hi)
theorem hall_el {i : Int32} (hi : inb i 3 = true) : SHk (120 + 22 * i.toNatClampNeg) = 4 := hl_all _ (inb_lt hi)
theorem bk_el {i : Int32} (hi : inb i 40 = true) : SHk (77 + i.toNatClampNeg) = 10 ∧ LN (77 + i.toNatClampNeg) = 45 := bk_all _ (inb_lt hi)
theorem row_el {i : Int32} (hi : inb i 4 = true) : SHk (64 + i.toNatClampNeg) = 12 ∧ LN (64 + i.toNatClampNeg) = 60 := rw_all _ (inb_lt hi)
abbrev M_X7_addFour : MI := (yX7_addFour, cX7_addFour, 3, none)
abbrev M_X9_feed : MI := (yX9_feed, cX9_feed, 6, some .int)
abbrev M_X9_end : MI := (yX9_end, cX9_end, 2, some .int)
abbrev M_X3_begin : MI := (yX3_begin, cX3_begin, 2, none)
abbrev M_X3_below : MI := (yX3_below, cX3_below, 6, some .int)
abbrev M_X3_mix : MI := (yX3_mix, cX3_mix, 6, none)
abbrev M_X2_mixCalls : MI := (yX2_mixCalls, cX2_mixCalls, 5, none)
abbrev M_X9_noteTurns : MI := (yX9_noteTurns, cX9_noteTurns, 5, none)
abbrev M_X5_noteTurns : MI := (yX5_noteTurns, cX5_noteTurns, 1, none)
abbrev M_J7_fill_53178 : MI := (yJ7_fill_53178, cJ7_fill_53178, 4, none)
abbrev M_X6_isPart : MI := (yX6_isPart, cX6_isPart, 5, some .boolean)
abbrev M_X6_addIfPart : MI := (yX6_addIfPart, cX6_addIfPart, 2, none)
abbrev M_X6_begin : MI := (yX6_begin, cX6_begin, 5, none)
abbrev M_X6_packed : MI := (yX6_packed, cX6_packed, 2, some .int)
abbrev M_X6_beMixes : MI := (yX6_beMixes, cX6_beMixes, 9, none)
abbrev M_X6_beSets : MI := (yX6_beSets, cX6_beSets, 6, none)
abbrev M_X6_canTake : MI := (yX6_canTake, cX6_canTake, 2, some .boolean)
abbrev M_X6_waysOf : MI := (yX6_waysOf, cX6_waysOf, 5, some .int)
abbrev M_X4_settle : MI := (yX4_settle, cX4_settle, 3, none)
abbrev M_X4_clear : MI := (yX4_clear, cX4_clear, 1, none)
abbrev M_X5_clear : MI := (yX5_clear, cX5_clear, 1, none)
abbrev M_X7_byteAt : MI := (yX7_byteAt, cX7_byteAt, 2, some .int)
abbrev M_X7_isBlank : MI := (yX7_isBlank, cX7_isBlank, 1, some .boolean)
abbrev M_X7_isDigit : MI := (yX7_isDigit, cX7_isDigit, 1, some .boolean)
abbrev M_X7_isLetter : MI := (yX7_isLetter, cX7_isLetter, 1, some .boolean)
abbrev M_X7_takeToken : MI := (yX7_takeToken, cX7_takeToken, 2, none)
abbrev M_X7_begin : MI := (yX7_begin, cX7_begin, 2, none)
abbrev M_X7_hasLine : MI := (yX7_hasLine, cX7_hasLine, 1, some .boolean)
abbrev M_X7_fail : MI := (yX7_fail, cX7_fail, 2, none)
abbrev M_X7_isWord : MI := (yX7_isWord, cX7_isWord, 3, some .boolean)
abbrev M_X4_isAsSaid : MI := (yX4_isAsSaid, cX4_isAsSaid, 1, some .boolean)
abbrev M_X7_isNumberOf : MI := (yX7_isNumberOf, cX7_isNumberOf, 3, some .boolean)
abbrev M_X7_takeNumber : MI := (yX7_takeNumber, cX7_takeNumber, 4, some .int)
abbrev M_X7_readColumns : MI := (yX7_readColumns, cX7_readColumns, 3, none)
abbrev M_X7_takeWord : MI := (yX7_takeWord, cX7_takeWord, 2, none)
abbrev M_X7_readForm : MI := (yX7_readForm, cX7_readForm, 2, none)
abbrev M_X7_readJackpot : MI := (yX7_readJackpot, cX7_readJackpot, 2, none)
abbrev M_X7_readPrize : MI := (yX7_readPrize, cX7_readPrize, 3, none)
abbrev M_X4_placeOf : MI := (yX4_placeOf, cX4_placeOf, 5, some .int)
abbrev M_X6_digit : MI := (yX6_digit, cX6_digit, 2, some .int)
abbrev M_X2_layDown : MI := (yX2_layDown, cX2_layDown, 7, none)
abbrev M_X9_sortRising : MI := (yX9_sortRising, cX9_sortRising, 5, none)
abbrev M_X2_dealColumn : MI := (yX2_dealColumn, cX2_dealColumn, 8, none)
abbrev M_X2_drawnPlan : MI := (yX2_drawnPlan, cX2_drawnPlan, 3, some .int)
abbrev M_X6_pick : MI := (yX6_pick, cX6_pick, 11, none)
abbrev M_X4_putPlan : MI := (yX4_putPlan, cX4_putPlan, 5, none)
abbrev M_X2_deal : MI := (yX2_deal, cX2_deal, 7, none)
abbrev M_X5_addSold : MI := (yX5_addSold, cX5_addSold, 3, none)
abbrev M_X9_areSame : MI := (yX9_areSame, cX9_areSame, 3, some .boolean)
abbrev M_X5_hasSold : MI := (yX5_hasSold, cX5_hasSold, 3, some .boolean)
abbrev M_X7_readSold : MI := (yX7_readSold, cX7_readSold, 3, none)
abbrev M_X7_takeSign : MI := (yX7_takeSign, cX7_takeSign, 1, none)
abbrev M_X7_readLine : MI := (yX7_readLine, cX7_readLine, 2, none)
abbrev M_X9_hall : MI := (yX9_hall, cX9_hall, 2, some .int)
abbrev M_X9_fault : MI := (yX9_fault, cX9_fault, 2, some .int)
abbrev M_X9_isHall : MI := (yX9_isHall, cX9_isHall, 1, some .boolean)
abbrev M_X9_isColumn : MI := (yX9_isColumn, cX9_isColumn, 2, some .boolean)
abbrev M_X9_column : MI := (yX9_column, cX9_column, 3, some .int)
abbrev M_X9_numbers : MI := (yX9_numbers, cX9_numbers, 1, some .int)
abbrev M_X9_plans : MI := (yX9_plans, cX9_plans, 1, some .int)
abbrev M_X2_planned : MI := (yX2_planned, cX2_planned, 5, some .int)
abbrev M_X9_isCard : MI := (yX9_isCard, cX9_isCard, 2, some .boolean)
abbrev M_X9_plan : MI := (yX9_plan, cX9_plan, 4, some .int)
abbrev M_X8_isSlot : MI := (yX8_isSlot, cX8_isSlot, 2, some .boolean)
abbrev M_X8_hasRow : MI := (yX8_hasRow, cX8_hasRow, 2, some .boolean)
abbrev M_X8_lengthOf : MI := (yX8_lengthOf, cX8_lengthOf, 2, some .int)
abbrev M_X8_holds : MI := (yX8_holds, cX8_holds, 4, some .boolean)
abbrev M_X8_valueAt : MI := (yX8_valueAt, cX8_valueAt, 3, some .long)
abbrev M_X9_layouts : MI := (yX9_layouts, cX9_layouts, 7, some .int)
abbrev M_X9_isSerial : MI := (yX9_isSerial, cX9_isSerial, 2, some .boolean)
abbrev M_X9_made : MI := (yX9_made, cX9_made, 2, some .int)
abbrev M_X9_cell : MI := (yX9_cell, cX9_cell, 5, some .int)
abbrev M_X9_isNumber : MI := (yX9_isNumber, cX9_isNumber, 2, some .boolean)
abbrev M_X9_where : MI := (yX9_where, cX9_where, 6, some .int)
abbrev M_X9_same : MI := (yX9_same, cX9_same, 3, some .int)
abbrev M_J13_bitCount_95d88 : MI := (yJ13_bitCount_95d88, cJ13_bitCount_95d88, 2, some .int)
abbrev M_X4_numbersOf : MI := (yX4_numbersOf, cX4_numbersOf, 8, some .long)
abbrev M_X9_alike : MI := (yX9_alike, cX9_alike, 5, some .int)
abbrev M_X9_sell : MI := (yX9_sell, cX9_sell, 2, some .int)
abbrev M_X9_unsell : MI := (yX9_unsell, cX9_unsell, 1, some .int)
abbrev M_X9_isPlace : MI := (yX9_isPlace, cX9_isPlace, 2, some .boolean)
abbrev M_X9_sold : MI := (yX9_sold, cX9_sold, 2, some .int)
abbrev M_X9_caller : MI := (yX9_caller, cX9_caller, 2, some .int)
abbrev M_X9_isEachNumberOnce : MI := (yX9_isEachNumberOnce, cX9_isEachNumberOnce, 7, some .boolean)
abbrev M_X9_calls : MI := (yX9_calls, cX9_calls, 3, some .int)
abbrev M_X9_call : MI := (yX9_call, cX9_call, 2, some .int)
abbrev M_X9_called : MI := (yX9_called, cX9_called, 2, some .int)
abbrev M_X0_turnAt : MI := (yX0_turnAt, cX0_turnAt, 4, some .int)
abbrev M_X0_rowLack : MI := (yX0_rowLack, cX0_rowLack, 5, some .int)
abbrev M_X0_daubedBy : MI := (yX0_daubedBy, cX0_daubedBy, 4, some .int)
abbrev M_X0_look : MI := (yX0_look, cX0_look, 9, none)
abbrev M_X9_cardOf : MI := (yX9_cardOf, cX9_cardOf, 3, some (.object "BingoHall$Card"))
abbrev M_X9_isTime : MI := (yX9_isTime, cX9_isTime, 2, some .boolean)
abbrev M_X9_daubs : MI := (yX9_daubs, cX9_daubs, 4, some .int)
abbrev M_X0_fullRowsBy : MI := (yX0_fullRowsBy, cX0_fullRowsBy, 4, some .int)
abbrev M_X9_full : MI := (yX9_full, cX9_full, 4, some .int)
abbrev M_X0_canHave : MI := (yX0_canHave, cX0_canHave, 2, some .boolean)
abbrev M_X0_lackOf : MI := (yX0_lackOf, cX0_lackOf, 6, some .int)
abbrev M_X9_isKind : MI := (yX9_isKind, cX9_isKind, 2, some .boolean)
abbrev M_X9_lacks : MI := (yX9_lacks, cX9_lacks, 5, some .int)
abbrev M_X0_rowTurn : MI := (yX0_rowTurn, cX0_rowTurn, 4, some .int)
abbrev M_X0_turnOf : MI := (yX0_turnOf, cX0_turnOf, 3, some .int)
abbrev M_X9_done : MI := (yX9_done, cX9_done, 4, some .int)
abbrev M_X9_claim : MI := (yX9_claim, cX9_claim, 6, some .int)
abbrev M_X9_soldCard : MI := (yX9_soldCard, cX9_soldCard, 4, some (.object "BingoHall$Card"))
abbrev M_X9_firstTurnOf : MI := (yX9_firstTurnOf, cX9_firstTurnOf, 7, some .int)
abbrev M_X9_firstTurn : MI := (yX9_firstTurn, cX9_firstTurn, 6, some .int)
abbrev M_X9_first : MI := (yX9_first, cX9_first, 2, some .int)
abbrev M_X9_hasFirst : MI := (yX9_hasFirst, cX9_hasFirst, 5, some .boolean)
abbrev M_X9_winnersAt : MI := (yX9_winnersAt, cX9_winnersAt, 7, some .int)
abbrev M_X9_winner : MI := (yX9_winner, cX9_winner, 7, some .int)
abbrev M_X9_partOf : MI := (yX9_partOf, cX9_partOf, 2, some .int)
abbrev M_X9_prize : MI := (yX9_prize, cX9_prize, 5, some .int)
abbrev M_X9_jackpotPart : MI := (yX9_jackpotPart, cX9_jackpotPart, 2, some .int)
abbrev M_X9_jackpot : MI := (yX9_jackpot, cX9_jackpot, 3, some .int)
abbrev M_X9_winnerPart : MI := (yX9_winnerPart, cX9_winnerPart, 4, some .int)
abbrev M_X9_wins : MI := (yX9_wins, cX9_wins, 7, some .int)
abbrev M_X9_wonInAll : MI := (yX9_wonInAll, cX9_wonInAll, 5, some .long)
abbrev M_X9_isUnlikeAhead : MI := (yX9_isUnlikeAhead, cX9_isUnlikeAhead, 3, some .boolean)
abbrev M_X9_book : MI := (yX9_book, cX9_book, 6, some .int)
abbrev M_X9_isShape : MI := (yX9_isShape, cX9_isShape, 5, some .boolean)
abbrev M_X9_shapeTurn : MI := (yX9_shapeTurn, cX9_shapeTurn, 6, some .int)
abbrev M_X9_shaped : MI := (yX9_shaped, cX9_shaped, 4, some .int)
abbrev M_X9_shape : MI := (yX9_shape, cX9_shape, 8, some .int)
abbrev M_X0_endsTurn : MI := (yX0_endsTurn, cX0_endsTurn, 6, some .int)
abbrev M_X9_corners : MI := (yX9_corners, cX9_corners, 4, some .int)
abbrev M_X9_filled : MI := (yX9_filled, cX9_filled, 7, some .int)
abbrev M_X9_last : MI := (yX9_last, cX9_last, 4, some .int)
abbrev M_X9_sweat : MI := (yX9_sweat, cX9_sweat, 6, some .int)
abbrev M_X9_nearest : MI := (yX9_nearest, cX9_nearest, 7, some .int)
abbrev M_X9_daubTime : MI := (yX9_daubTime, cX9_daubTime, 4, some .int)
abbrev M_X9_slow : MI := (yX9_slow, cX9_slow, 9, some .int)
abbrev M_X9_aheadOf : MI := (yX9_aheadOf, cX9_aheadOf, 7, some .int)
abbrev M_X9_race : MI := (yX9_race, cX9_race, 5, some .int)
abbrev M_X9_paidInAll : MI := (yX9_paidInAll, cX9_paidInAll, 8, some .long)
abbrev M_X9_share : MI := (yX9_share, cX9_share, 11, some .int)
abbrev M_X1_choose : MI := (yX1_choose, cX1_choose, 5, some .long)
abbrev M_X1_drawsWith : MI := (yX1_drawsWith, cX1_drawsWith, 12, some .long)
abbrev M_X1_commonDivisor : MI := (yX1_commonDivisor, cX1_commonDivisor, 11, some .long)
abbrev M_X1_told : MI := (yX1_told, cX1_told, 7, some .long)
abbrev M_X9_isPartOfFraction : MI := (yX9_isPartOfFraction, cX9_isPartOfFraction, 1, some .boolean)
abbrev M_X9_chance : MI := (yX9_chance, cX9_chance, 9, some .long)
abbrev M_X9_stripDraws : MI := (yX9_stripDraws, cX9_stripDraws, 6, some .long)
abbrev M_X9_some : MI := (yX9_some, cX9_some, 4, some .long)
abbrev M_X9_just : MI := (yX9_just, cX9_just, 6, some .long)
abbrev M_X9_likely : MI := (yX9_likely, cX9_likely, 5, some .int)
abbrev M_X9_mean : MI := (yX9_mean, cX9_mean, 3, some .int)
abbrev M_X9_evenings : MI := (yX9_evenings, cX9_evenings, 11, some .int)
abbrev M_X9_judge : MI := (yX9_judge, cX9_judge, 4, some .int)
abbrev M_X8_inUse : MI := (yX8_inUse, cX8_inUse, 3, some .int)
abbrev M_X9_count : MI := (yX9_count, cX9_count, 2, some .int)
abbrev M_X4_copyFrom : MI := (yX4_copyFrom, cX4_copyFrom, 2, none)
abbrev M_X5_copyFrom : MI := (yX5_copyFrom, cX5_copyFrom, 3, none)
abbrev M_X9_keep : MI := (yX9_keep, cX9_keep, 2, some .int)
abbrev M_X9_back : MI := (yX9_back, cX9_back, 2, some .int)
abbrev M_J7_fill_d0a16 : MI := (yJ7_fill_d0a16, cJ7_fill_d0a16, 5, none)
abbrev M_X8_begin : MI := (yX8_begin, cX8_begin, 4, none)
abbrev M_X9_row : MI := (yX9_row, cX9_row, 4, some .int)
abbrev M_X8_cut : MI := (yX8_cut, cX8_cut, 3, some .long)
abbrev M_X8_put : MI := (yX8_put, cX8_put, 5, none)
abbrev M_X9_write : MI := (yX9_write, cX9_write, 5, some .int)
abbrev M_X8_areOfOneWidth : MI := (yX8_areOfOneWidth, cX8_areOfOneWidth, 3, some .boolean)
abbrev M_X8_move : MI := (yX8_move, cX8_move, 6, none)
abbrev M_X9_paste : MI := (yX9_paste, cX9_paste, 6, some .int)
abbrev M_X10_in : MI := (yX10_in, cX10_in, 6, some .boolean)
abbrev M_X10_isSlot : MI := (yX10_isSlot, cX10_isSlot, 1, some .boolean)
abbrev M_X10_row : MI := (yX10_row, cX10_row, 5, some .int)
abbrev M_X10_cut : MI := (yX10_cut, cX10_cut, 3, some .long)
abbrev M_X10_write : MI := (yX10_write, cX10_write, 5, some .int)
abbrev M_X10_paste : MI := (yX10_paste, cX10_paste, 7, some .int)
abbrev M_X10_four : MI := (yX10_four, cX10_four, 3, none)
abbrev M_X10_feed : MI := (yX10_feed, cX10_feed, 6, some .int)
abbrev M_X10_end : MI := (yX10_end, cX10_end, 2, some .int)
abbrev M_X10_isByte : MI := (yX10_isByte, cX10_isByte, 4, some .boolean)
abbrev M_X10_next : MI := (yX10_next, cX10_next, 2, none)
abbrev M_X10_isGood : MI := (yX10_isGood, cX10_isGood, 1, some .boolean)
abbrev M_X10_fails : MI := (yX10_fails, cX10_fails, 2, none)
abbrev M_X10_is : MI := (yX10_is, cX10_is, 3, some .boolean)
abbrev M_X10_takes : MI := (yX10_takes, cX10_takes, 3, some .boolean)
abbrev M_X10_asks : MI := (yX10_asks, cX10_asks, 3, none)
abbrev M_X10_number : MI := (yX10_number, cX10_number, 4, some .int)
abbrev M_X10_number_ : MI := (yX10_number_, cX10_number_, 5, some .int)
abbrev M_X10_ends : MI := (yX10_ends, cX10_ends, 1, none)
abbrev M_X10_begins : MI := (yX10_begins, cX10_begins, 1, none)
abbrev M_X10_isOver : MI := (yX10_isOver, cX10_isOver, 1, none)
abbrev M_X10_fault : MI := (yX10_fault, cX10_fault, 2, some .int)
abbrev M_X10_of : MI := (yX10_of, cX10_of, 3, some .int)
abbrev M_X10_numbersOf : MI := (yX10_numbersOf, cX10_numbersOf, 2, some .int)
abbrev M_X10_plans : MI := (yX10_plans, cX10_plans, 6, none)
abbrev M_X10_planOf : MI := (yX10_planOf, cX10_planOf, 4, none)
abbrev M_X10_isAsSaid : MI := (yX10_isAsSaid, cX10_isAsSaid, 3, some .boolean)
abbrev M_X10_first : MI := (yX10_first, cX10_first, 3, none)
abbrev M_X10_drawn : MI := (yX10_drawn, cX10_drawn, 4, some .int)
abbrev M_X10_firstOf : MI := (yX10_firstOf, cX10_firstOf, 5, some .int)
abbrev M_X10_sizeOf : MI := (yX10_sizeOf, cX10_sizeOf, 3, some .int)
abbrev M_X10_layouts : MI := (yX10_layouts, cX10_layouts, 5, none)
abbrev M_X10_layoutOf : MI := (yX10_layoutOf, cX10_layoutOf, 3, none)
abbrev M_X10_at : MI := (yX10_at, cX10_at, 5, some .int)
abbrev M_X10_lays : MI := (yX10_lays, cX10_lays, 11, none)
abbrev M_X10_mixes : MI := (yX10_mixes, cX10_mixes, 6, none)
abbrev M_X10_makes : MI := (yX10_makes, cX10_makes, 8, none)
abbrev M_X10_areSame : MI := (yX10_areSame, cX10_areSame, 5, some .boolean)
abbrev M_X10_isSoldIn : MI := (yX10_isSoldIn, cX10_isSoldIn, 4, some .boolean)
abbrev M_X10_line : MI := (yX10_line, cX10_line, 4, none)
abbrev M_X10_clears : MI := (yX10_clears, cX10_clears, 2, none)
abbrev M_X10_callsBy : MI := (yX10_callsBy, cX10_callsBy, 5, none)
abbrev M_X10_copyRow : MI := (yX10_copyRow, cX10_copyRow, 5, none)
abbrev M_X10_copyHall : MI := (yX10_copyHall, cX10_copyHall, 3, none)
abbrev M_X10_hall : MI := (yX10_hall, cX10_hall, 1, some .int)
abbrev M_X10_isHall : MI := (yX10_isHall, cX10_isHall, 1, some .boolean)
abbrev M_X10_all : MI := (yX10_all, cX10_all, 1, some .int)
abbrev M_X10_isSerial : MI := (yX10_isSerial, cX10_isSerial, 2, some .boolean)
abbrev M_X10_isCard : MI := (yX10_isCard, cX10_isCard, 2, some .boolean)
abbrev M_X10_isColumn : MI := (yX10_isColumn, cX10_isColumn, 2, some .boolean)
abbrev M_X10_column : MI := (yX10_column, cX10_column, 3, some .int)
abbrev M_X10_numbers : MI := (yX10_numbers, cX10_numbers, 1, some .int)
abbrev M_X10_plans_ : MI := (yX10_plans_, cX10_plans_, 1, some .int)
abbrev M_X10_plan : MI := (yX10_plan, cX10_plan, 4, some .int)
abbrev M_X10_whyNot : MI := (yX10_whyNot, cX10_whyNot, 2, some .int)
abbrev M_X10_layouts_ : MI := (yX10_layouts_, cX10_layouts_, 4, some .int)
abbrev M_X10_made : MI := (yX10_made, cX10_made, 2, some .int)
abbrev M_X10_cell : MI := (yX10_cell, cX10_cell, 5, some .int)
abbrev M_X10_isNumber : MI := (yX10_isNumber, cX10_isNumber, 3, some .boolean)
abbrev M_X10_where : MI := (yX10_where, cX10_where, 6, some .int)
abbrev M_X10_same : MI := (yX10_same, cX10_same, 3, some .int)
abbrev M_X10_alike : MI := (yX10_alike, cX10_alike, 8, some .int)
abbrev M_X10_sell : MI := (yX10_sell, cX10_sell, 2, some .int)
abbrev M_X10_unsell : MI := (yX10_unsell, cX10_unsell, 1, some .int)
abbrev M_X10_sold : MI := (yX10_sold, cX10_sold, 2, some .int)
abbrev M_X10_caller : MI := (yX10_caller, cX10_caller, 2, some .int)
abbrev M_X10_calls : MI := (yX10_calls, cX10_calls, 5, some .int)
abbrev M_X10_call : MI := (yX10_call, cX10_call, 2, some .int)
abbrev M_X10_calledIn : MI := (yX10_calledIn, cX10_calledIn, 4, some .int)
abbrev M_X10_called : MI := (yX10_called, cX10_called, 2, some .int)
abbrev M_X10_lackOf : MI := (yX10_lackOf, cX10_lackOf, 7, some .int)
abbrev M_X10_isAsked : MI := (yX10_isAsked, cX10_isAsked, 4, some .boolean)
abbrev M_X10_daubs : MI := (yX10_daubs, cX10_daubs, 6, some .int)
abbrev M_X10_full : MI := (yX10_full, cX10_full, 6, some .int)
abbrev M_X10_lacksOf : MI := (yX10_lacksOf, cX10_lacksOf, 10, some .int)
abbrev M_X10_isKind : MI := (yX10_isKind, cX10_isKind, 1, some .boolean)
abbrev M_X10_lacks : MI := (yX10_lacks, cX10_lacks, 5, some .int)
abbrev M_X10_doneOf : MI := (yX10_doneOf, cX10_doneOf, 5, some .int)
abbrev M_X10_done : MI := (yX10_done, cX10_done, 4, some .int)
abbrev M_X10_claim : MI := (yX10_claim, cX10_claim, 6, some .int)
abbrev M_X10_races : MI := (yX10_races, cX10_races, 6, none)
abbrev M_X10_isWinner : MI := (yX10_isWinner, cX10_isWinner, 3, some .boolean)
abbrev M_X10_first_ : MI := (yX10_first_, cX10_first_, 2, some .int)
abbrev M_X10_winner : MI := (yX10_winner, cX10_winner, 6, some .int)
abbrev M_X10_eachOf : MI := (yX10_eachOf, cX10_eachOf, 2, some .int)
abbrev M_X10_prize : MI := (yX10_prize, cX10_prize, 4, some .int)
abbrev M_X10_jackpotEach : MI := (yX10_jackpotEach, cX10_jackpotEach, 1, some .int)
abbrev M_X10_jackpot : MI := (yX10_jackpot, cX10_jackpot, 2, some .int)
abbrev M_X10_wins : MI := (yX10_wins, cX10_wins, 5, some .int)
abbrev M_X10_laysBook : MI := (yX10_laysBook, cX10_laysBook, 8, some .int)
abbrev M_X10_book : MI := (yX10_book, cX10_book, 3, some .int)
abbrev M_X10_whyNotShape : MI := (yX10_whyNotShape, cX10_whyNotShape, 6, some .int)
abbrev M_X10_later : MI := (yX10_later, cX10_later, 3, some .int)
abbrev M_X10_shapedOf : MI := (yX10_shapedOf, cX10_shapedOf, 6, some .int)
abbrev M_X10_shaped : MI := (yX10_shaped, cX10_shaped, 5, some .int)
abbrev M_X10_shape : MI := (yX10_shape, cX10_shape, 9, some .int)
abbrev M_X10_endOf : MI := (yX10_endOf, cX10_endOf, 5, some .int)
abbrev M_X10_corners : MI := (yX10_corners, cX10_corners, 4, some .int)
abbrev M_X10_filled : MI := (yX10_filled, cX10_filled, 6, some .int)
abbrev M_X10_last : MI := (yX10_last, cX10_last, 5, some .int)
abbrev M_X10_isBy : MI := (yX10_isBy, cX10_isBy, 3, some .boolean)
abbrev M_X10_sweat : MI := (yX10_sweat, cX10_sweat, 6, some .int)
abbrev M_X10_nearest : MI := (yX10_nearest, cX10_nearest, 7, some .int)
abbrev M_X10_laysSlow : MI := (yX10_laysSlow, cX10_laysSlow, 7, none)
abbrev M_X10_slow : MI := (yX10_slow, cX10_slow, 9, some .int)
abbrev M_X10_whenOf : MI := (yX10_whenOf, cX10_whenOf, 5, some .int)
abbrev M_X10_race : MI := (yX10_race, cX10_race, 6, some .int)
abbrev M_X10_winsInAll : MI := (yX10_winsInAll, cX10_winsInAll, 3, some .int)
abbrev M_X10_share : MI := (yX10_share, cX10_share, 10, some .int)
abbrev M_X10_choose : MI := (yX10_choose, cX10_choose, 5, some .long)
abbrev M_X10_setsOf : MI := (yX10_setsOf, cX10_setsOf, 10, some .long)
abbrev M_X10_setsOfKind : MI := (yX10_setsOfKind, cX10_setsOfKind, 4, some .long)
abbrev M_X10_common : MI := (yX10_common, cX10_common, 10, some .long)
abbrev M_X10_told : MI := (yX10_told, cX10_told, 5, some .long)
abbrev M_X10_setsOfStrip : MI := (yX10_setsOfStrip, cX10_setsOfStrip, 4, some .long)
abbrev M_X10_isChance : MI := (yX10_isChance, cX10_isChance, 4, some .boolean)
abbrev M_X10_chance : MI := (yX10_chance, cX10_chance, 4, some .long)
abbrev M_X10_some : MI := (yX10_some, cX10_some, 4, some .long)
abbrev M_X10_just : MI := (yX10_just, cX10_just, 6, some .long)
abbrev M_X10_likely : MI := (yX10_likely, cX10_likely, 5, some .int)
abbrev M_X10_mean : MI := (yX10_mean, cX10_mean, 3, some .int)
abbrev M_X10_evenings : MI := (yX10_evenings, cX10_evenings, 10, some .int)
abbrev M_X10_judge : MI := (yX10_judge, cX10_judge, 4, some .int)
abbrev M_X10_count : MI := (yX10_count, cX10_count, 4, some .int)
abbrev M_X10_keep : MI := (yX10_keep, cX10_keep, 2, some .int)
abbrev M_X10_back : MI := (yX10_back, cX10_back, 2, some .int)
theorem sk_53 : SHk 53 = 6 := by decide +kernel
theorem cb_24 : (Int8.ofInt (24)).toInt32 = (24 : Int32) := by decide
theorem lf_X7_15 : LF RX7 15 6 1 := ⟨by decide, by decide, (RX7, TX7, 11), rfl, rfl, rfl, inG6, Or.inl (mg 374 (by decide +kernel) rfl)⟩
theorem cs_800 : (Int16.ofInt (800)).toInt32 = (800 : Int32) := by decide
theorem lf_X7_9 : LF RX7 9 6 0 := ⟨by decide, by decide, (RX7, TX7, 11), rfl, rfl, rfl, inG6, Or.inl (mg 373 (by decide +kernel) rfl)⟩
theorem sk_54 : SHk 54 = 11 := by decide +kernel
theorem ln_54 : LN 54 = 800 := by decide +kernel
theorem ci_1 : Int32.ofInt (1) = (1 : Int32) := by decide
theorem lpt_6_1 : LPt 6 1 .int := ⟨(RX7, TX7, 11), rfl, ⟨tyX7, tyX7_ok⟩, nmX7, rfl, by decide +kernel⟩
theorem cim_8 : Int32.ofInt (-8) = (-8 : Int32) := by decide
theorem sk_0 : SHk 0 = 8 := by decide +kernel
theorem lf_X9_37 : LF RX9 37 8 5 := ⟨by decide, by decide, (RX9, TX9, 14), rfl, rfl, rfl, inG8, Or.inl (mg 462 (by decide +kernel) rfl)⟩
theorem lf_X9_76 : LF RX9 76 6 1 := ⟨by decide, by decide, (RX7, TX7, 11), rfl, rfl, rfl, inG6, Or.inr ⟨"BingoHall", (mn 375 (by decide +kernel) rfl)⟩⟩
theorem cs_780 : (Int16.ofInt (780)).toInt32 = (780 : Int32) := by decide
theorem cim_1 : Int32.ofInt (-1) = (-1 : Int32) := by decide
theorem mv_X9_80 : LVt RX9 80 RX7 M_X7_addFour 1 := ⟨rfl, ⟨by decide, by decide, by decide +kernel⟩, ⟨(mg 507 (by decide +kernel) rfl), (mg 506 (by decide +kernel) rfl), (mg 0 (by decide +kernel) rfl), (mg 157 (by decide +kernel) rfl)⟩, Or.inr ⟨"BingoHall", (mn 504 (by decide +kernel) rfl)⟩⟩
theorem lf_X3_7 : LF RX3 7 2 0 := ⟨by decide, by decide, (RX3, TX3, 1), rfl, rfl, rfl, inG2, Or.inl (mg 344 (by decide +kernel) rfl)⟩
theorem lpt_2_0 : LPt 2 0 .long := ⟨(RX3, TX3, 1), rfl, ⟨tyX3, tyX3_ok⟩, nmX3, rfl, by decide +kernel⟩
theorem ll_X3_13 : Cond.constantLong RX3 13 (1103515245) ∈ lw_good := (mg 719 (by decide +kernel) rfl)
theorem ll_X3_15 : Cond.constantLong RX3 15 (12345) ∈ lw_good := (mg 720 (by decide +kernel) rfl)
theorem ll_X3_17 : Cond.constantLong RX3 17 (2147483648) ∈ lw_good := (mg 721 (by decide +kernel) rfl)
theorem ll_X3_19 : Cond.constantLong RX3 19 (65536) ∈ lw_good := (mg 722 (by decide +kernel) rfl)
theorem ci_0 : Int32.ofInt (0) = (0 : Int32) := by decide
theorem ll_X3_21 : Cond.constantLong RX3 21 (32768) ∈ lw_good := (mg 723 (by decide +kernel) rfl)
theorem mv_X3_23 : LVt RX3 23 RX3 M_X3_below 1 := ⟨rfl, ⟨by decide, by decide, by decide +kernel⟩, ⟨(mg 718 (by decide +kernel) rfl), (mg 717 (by decide +kernel) rfl), (mg 28 (by decide +kernel) rfl), (mg 156 (by decide +kernel) rfl)⟩, Or.inl (mg 738 (by decide +kernel) rfl)⟩
theorem lf_X2_110 : LF RX2 110 3 6 := ⟨by decide, by decide, (RX4, TX4, 12), rfl, rfl, rfl, inG3, Or.inr ⟨"BingoHall", (mn 245 (by decide +kernel) rfl)⟩⟩
theorem lf_X2_12 : LF RX2 12 1 0 := ⟨by decide, by decide, (RX2, TX2, 5), rfl, rfl, rfl, inG1, Or.inl (mg 349 (by decide +kernel) rfl)⟩
theorem tp_1_0 {a : Nat} (h : SHk a = 1) : SHk (a + 1) = 2 := (ofs_all _ (List.mem_of_getElem? (i := 0) rfl) a (sh_lt h (by decide)) h).1
theorem mv_X2_31 : LVt RX2 31 RX3 M_X3_begin 1 := ⟨rfl, ⟨by decide, by decide, by decide +kernel⟩, ⟨(mg 714 (by decide +kernel) rfl), (mg 713 (by decide +kernel) rfl), (mg 27 (by decide +kernel) rfl), (mg 156 (by decide +kernel) rfl)⟩, Or.inr ⟨"BingoHall", (mn 711 (by decide +kernel) rfl)⟩⟩
theorem mv_X2_92 : LVt RX2 92 RX3 M_X3_mix 2 := ⟨rfl, ⟨by decide, by decide, by decide +kernel⟩, ⟨(mg 737 (by decide +kernel) rfl), (mg 736 (by decide +kernel) rfl), (mg 31 (by decide +kernel) rfl), (mg 156 (by decide +kernel) rfl)⟩, Or.inr ⟨"BingoHall", (mn 734 (by decide +kernel) rfl)⟩⟩
theorem lf_X5_43 : LF RX5 43 4 8 := ⟨by decide, by decide, (RX5, TX5, 10), rfl, rfl, rfl, inG4, Or.inl (mg 306 (by decide +kernel) rfl)⟩
theorem tp_4_8 {a : Nat} (h : SHk a = 4) : SHk (a + 20) = 10 := (ofs_all _ (List.mem_of_getElem? (i := 14) rfl) a (sh_lt h (by decide)) h).1
theorem tl_4_8 {a : Nat} (h : SHk a = 4) : LN (a + 20) = 45 := (ofs_all _ (List.mem_of_getElem? (i := 14) rfl) a (sh_lt h (by decide)) h).2
theorem lf_X5_12 : LF RX5 12 4 0 := ⟨by decide, by decide, (RX5, TX5, 10), rfl, rfl, rfl, inG4, Or.inl (mg 284 (by decide +kernel) rfl)⟩
theorem tp_4_0 {a : Nat} (h : SHk a = 4) : SHk (a + 1) = 3 := (ofs_all _ (List.mem_of_getElem? (i := 10) rfl) a (sh_lt h (by decide)) h).1
theorem lf_X5_72 : LF RX5 72 3 6 := ⟨by decide, by decide, (RX4, TX4, 12), rfl, rfl, rfl, inG3, Or.inr ⟨"BingoHall", (mn 244 (by decide +kernel) rfl)⟩⟩
theorem lf_X5_46 : LF RX5 46 4 9 := ⟨by decide, by decide, (RX5, TX5, 10), rfl, rfl, rfl, inG4, Or.inl (mg 308 (by decide +kernel) rfl)⟩
theorem tp_4_9 {a : Nat} (h : SHk a = 4) : SHk (a + 21) = 10 := (ofs_all _ (List.mem_of_getElem? (i := 15) rfl) a (sh_lt h (by decide)) h).1
theorem tl_4_9 {a : Nat} (h : SHk a = 4) : LN (a + 21) = 46 := (ofs_all _ (List.mem_of_getElem? (i := 15) rfl) a (sh_lt h (by decide)) h).2
theorem ms_X5_75 : LSt RX5 75 M_X9_noteTurns 3 := ⟨⟨by decide, by decide, by decide +kernel⟩, ⟨(mg 787 (by decide +kernel) rfl), (mg 786 (by decide +kernel) rfl), (mg 151 (by decide +kernel) rfl)⟩, Or.inr ⟨"BingoHall", (mn 785 (by decide +kernel) rfl)⟩⟩
theorem lf_X6_19 : LF RX6 19 5 2 := ⟨by decide, by decide, (RX6, TX6, 6), rfl, rfl, rfl, inG5, Or.inl (mg 200 (by decide +kernel) rfl)⟩
theorem ci_5 : Int32.ofInt (5) = (5 : Int32) := by decide
theorem ci_4 : Int32.ofInt (4) = (4 : Int32) := by decide
theorem cb_31 : (Int8.ofInt (31)).toInt32 = (31 : Int32) := by decide
theorem lf_X6_22 : LF RX6 22 5 3 := ⟨by decide, by decide, (RX6, TX6, 6), rfl, rfl, rfl, inG5, Or.inl (mg 201 (by decide +kernel) rfl)⟩
theorem lf_X6_25 : LF RX6 25 5 4 := ⟨by decide, by decide, (RX6, TX6, 6), rfl, rfl, rfl, inG5, Or.inl (mg 202 (by decide +kernel) rfl)⟩
theorem lf_X6_28 : LF RX6 28 5 5 := ⟨by decide, by decide, (RX6, TX6, 6), rfl, rfl, rfl, inG5, Or.inl (mg 203 (by decide +kernel) rfl)⟩
theorem mv_X6_43 : LVt RX6 43 RX6 M_X6_isPart 1 := ⟨rfl, ⟨by decide, by decide, by decide +kernel⟩, ⟨(mg 551 (by decide +kernel) rfl), (mg 550 (by decide +kernel) rfl), (mg 8 (by decide +kernel) rfl), (mg 154 (by decide +kernel) rfl)⟩, Or.inl (mg 548 (by decide +kernel) rfl)⟩
theorem lf_X6_15 : LF RX6 15 5 1 := ⟨by decide, by decide, (RX6, TX6, 6), rfl, rfl, rfl, inG5, Or.inl (mg 198 (by decide +kernel) rfl)⟩
theorem cb_64 : (Int8.ofInt (64)).toInt32 = (64 : Int32) := by decide
theorem lf_X6_11 : LF RX6 11 5 0 := ⟨by decide, by decide, (RX6, TX6, 6), rfl, rfl, rfl, inG5, Or.inl (mg 196 (by decide +kernel) rfl)⟩
theorem tp_5_0 {a : Nat} (h : SHk a = 5) : SHk (a + 1) = 10 := (ofs_all _ (List.mem_of_getElem? (i := 16) rfl) a (sh_lt h (by decide)) h).1
theorem tl_5_0 {a : Nat} (h : SHk a = 5) : LN (a + 1) = 64 := (ofs_all _ (List.mem_of_getElem? (i := 16) rfl) a (sh_lt h (by decide)) h).2
theorem lpt_5_1 : LPt 5 1 .int := ⟨(RX6, TX6, 6), rfl, ⟨tyX6, tyX6_ok⟩, nmX6, rfl, by decide +kernel⟩
theorem lpt_5_2 : LPt 5 2 .int := ⟨(RX6, TX6, 6), rfl, ⟨tyX6, tyX6_ok⟩, nmX6, rfl, by decide +kernel⟩
theorem lpt_5_3 : LPt 5 3 .int := ⟨(RX6, TX6, 6), rfl, ⟨tyX6, tyX6_ok⟩, nmX6, rfl, by decide +kernel⟩
theorem lpt_5_4 : LPt 5 4 .int := ⟨(RX6, TX6, 6), rfl, ⟨tyX6, tyX6_ok⟩, nmX6, rfl, by decide +kernel⟩
theorem lpt_5_5 : LPt 5 5 .int := ⟨(RX6, TX6, 6), rfl, ⟨tyX6, tyX6_ok⟩, nmX6, rfl, by decide +kernel⟩
theorem mv_X6_31 : LVt RX6 31 RX6 M_X6_begin 4 := ⟨rfl, ⟨by decide, by decide, by decide +kernel⟩, ⟨(mg 542 (by decide +kernel) rfl), (mg 541 (by decide +kernel) rfl), (mg 6 (by decide +kernel) rfl), (mg 154 (by decide +kernel) rfl)⟩, Or.inl (mg 539 (by decide +kernel) rfl)⟩
theorem ms_X6_35 : LSt RX6 35 M_X6_packed 2 := ⟨⟨by decide, by decide, by decide +kernel⟩, ⟨(mg 534 (by decide +kernel) rfl), (mg 533 (by decide +kernel) rfl), (mg 154 (by decide +kernel) rfl)⟩, Or.inl (mg 543 (by decide +kernel) rfl)⟩
theorem mv_X6_39 : LVt RX6 39 RX6 M_X6_addIfPart 1 := ⟨rfl, ⟨by decide, by decide, by decide +kernel⟩, ⟨(mg 547 (by decide +kernel) rfl), (mg 546 (by decide +kernel) rfl), (mg 7 (by decide +kernel) rfl), (mg 154 (by decide +kernel) rfl)⟩, Or.inl (mg 544 (by decide +kernel) rfl)⟩
theorem lc_X6_47 : Cond.constant RX6 47 (17318416) ∈ lw_good := (mg 559 (by decide +kernel) rfl)
theorem ci_3 : Int32.ofInt (3) = (3 : Int32) := by decide
theorem ms_X6_48 : LSt RX6 48 M_X6_canTake 2 := ⟨⟨by decide, by decide, by decide +kernel⟩, ⟨(mg 558 (by decide +kernel) rfl), (mg 557 (by decide +kernel) rfl), (mg 154 (by decide +kernel) rfl)⟩, Or.inl (mg 563 (by decide +kernel) rfl)⟩
theorem ms_X6_52 : LSt RX6 52 M_X6_waysOf 3 := ⟨⟨by decide, by decide, by decide +kernel⟩, ⟨(mg 562 (by decide +kernel) rfl), (mg 561 (by decide +kernel) rfl), (mg 154 (by decide +kernel) rfl)⟩, Or.inl (mg 564 (by decide +kernel) rfl)⟩
theorem lf_X4_31 : LF RX4 31 3 6 := ⟨by decide, by decide, (RX4, TX4, 12), rfl, rfl, rfl, inG3, Or.inl (mg 243 (by decide +kernel) rfl)⟩
theorem lpt_3_6 : LPt 3 6 .int := ⟨(RX4, TX4, 12), rfl, ⟨tyX4, tyX4_ok⟩, nmX4, rfl, by decide +kernel⟩
theorem lf_X4_34 : LF RX4 34 3 7 := ⟨by decide, by decide, (RX4, TX4, 12), rfl, rfl, rfl, inG3, Or.inl (mg 248 (by decide +kernel) rfl)⟩
theorem lpt_3_7 : LPt 3 7 .int := ⟨(RX4, TX4, 12), rfl, ⟨tyX4, tyX4_ok⟩, nmX4, rfl, by decide +kernel⟩
theorem lf_X4_21 : LF RX4 21 3 3 := ⟨by decide, by decide, (RX4, TX4, 12), rfl, rfl, rfl, inG3, Or.inl (mg 231 (by decide +kernel) rfl)⟩
theorem lf_X4_28 : LF RX4 28 3 5 := ⟨by decide, by decide, (RX4, TX4, 12), rfl, rfl, rfl, inG3, Or.inl (mg 240 (by decide +kernel) rfl)⟩
theorem tp_3_5 {a : Nat} (h : SHk a = 3) : SHk (a + 2) = 10 := (ofs_all _ (List.mem_of_getElem? (i := 6) rfl) a (sh_lt h (by decide)) h).1
theorem tl_3_5 {a : Nat} (h : SHk a = 3) : LN (a + 2) = 5 := (ofs_all _ (List.mem_of_getElem? (i := 6) rfl) a (sh_lt h (by decide)) h).2
theorem lf_X4_24 : LF RX4 24 3 4 := ⟨by decide, by decide, (RX4, TX4, 12), rfl, rfl, rfl, inG3, Or.inl (mg 236 (by decide +kernel) rfl)⟩
theorem tp_3_4 {a : Nat} (h : SHk a = 3) : SHk (a + 1) = 10 := (ofs_all _ (List.mem_of_getElem? (i := 5) rfl) a (sh_lt h (by decide)) h).1
theorem tl_3_4 {a : Nat} (h : SHk a = 3) : LN (a + 1) = 5 := (ofs_all _ (List.mem_of_getElem? (i := 5) rfl) a (sh_lt h (by decide)) h).2
theorem ms_X4_62 : LSt RX4 62 M_X6_packed 2 := ⟨⟨by decide, by decide, by decide +kernel⟩, ⟨(mg 534 (by decide +kernel) rfl), (mg 533 (by decide +kernel) rfl), (mg 154 (by decide +kernel) rfl)⟩, Or.inr ⟨"BingoHall", (mn 532 (by decide +kernel) rfl)⟩⟩
theorem lf_X4_43 : LF RX4 43 3 9 := ⟨by decide, by decide, (RX4, TX4, 12), rfl, rfl, rfl, inG3, Or.inl (mg 252 (by decide +kernel) rfl)⟩
theorem tp_3_9 {a : Nat} (h : SHk a = 3) : SHk (a + 3) = 5 := (ofs_all _ (List.mem_of_getElem? (i := 7) rfl) a (sh_lt h (by decide)) h).1
theorem lf_X4_15 : LF RX4 15 3 1 := ⟨by decide, by decide, (RX4, TX4, 12), rfl, rfl, rfl, inG3, Or.inl (mg 222 (by decide +kernel) rfl)⟩
theorem lf_X4_18 : LF RX4 18 3 2 := ⟨by decide, by decide, (RX4, TX4, 12), rfl, rfl, rfl, inG3, Or.inl (mg 227 (by decide +kernel) rfl)⟩
theorem mv_X4_66 : LVt RX4 66 RX6 M_X6_beMixes 3 := ⟨rfl, ⟨by decide, by decide, by decide +kernel⟩, ⟨(mg 538 (by decide +kernel) rfl), (mg 537 (by decide +kernel) rfl), (mg 5 (by decide +kernel) rfl), (mg 154 (by decide +kernel) rfl)⟩, Or.inr ⟨"BingoHall", (mn 535 (by decide +kernel) rfl)⟩⟩
theorem lf_X4_50 : LF RX4 50 3 11 := ⟨by decide, by decide, (RX4, TX4, 12), rfl, rfl, rfl, inG3, Or.inl (mg 254 (by decide +kernel) rfl)⟩
theorem tp_3_11 {a : Nat} (h : SHk a = 3) : SHk (a + 6) = 5 := (ofs_all _ (List.mem_of_getElem? (i := 9) rfl) a (sh_lt h (by decide)) h).1
theorem mv_X4_70 : LVt RX4 70 RX6 M_X6_beSets 2 := ⟨rfl, ⟨by decide, by decide, by decide +kernel⟩, ⟨(mg 555 (by decide +kernel) rfl), (mg 554 (by decide +kernel) rfl), (mg 9 (by decide +kernel) rfl), (mg 154 (by decide +kernel) rfl)⟩, Or.inr ⟨"BingoHall", (mn 552 (by decide +kernel) rfl)⟩⟩
theorem lf_X4_37 : LF RX4 37 3 8 := ⟨by decide, by decide, (RX4, TX4, 12), rfl, rfl, rfl, inG3, Or.inl (mg 249 (by decide +kernel) rfl)⟩
theorem lpt_3_8 : LPt 3 8 .int := ⟨(RX4, TX4, 12), rfl, ⟨tyX4, tyX4_ok⟩, nmX4, rfl, by decide +kernel⟩
theorem lf_X4_74 : LF RX4 74 5 1 := ⟨by decide, by decide, (RX6, TX6, 6), rfl, rfl, rfl, inG5, Or.inr ⟨"BingoHall", (mn 199 (by decide +kernel) rfl)⟩⟩
theorem lf_X4_77 : LF RX4 77 5 0 := ⟨by decide, by decide, (RX6, TX6, 6), rfl, rfl, rfl, inG5, Or.inr ⟨"BingoHall", (mn 197 (by decide +kernel) rfl)⟩⟩
theorem lf_X4_47 : LF RX4 47 3 10 := ⟨by decide, by decide, (RX4, TX4, 12), rfl, rfl, rfl, inG3, Or.inl (mg 253 (by decide +kernel) rfl)⟩
theorem tp_3_10 {a : Nat} (h : SHk a = 3) : SHk (a + 5) = 10 := (ofs_all _ (List.mem_of_getElem? (i := 8) rfl) a (sh_lt h (by decide)) h).1
theorem tl_3_10 {a : Nat} (h : SHk a = 3) : LN (a + 5) = 64 := (ofs_all _ (List.mem_of_getElem? (i := 8) rfl) a (sh_lt h (by decide)) h).2
theorem ms_X4_80 : LSt RX4 80 M_X6_canTake 2 := ⟨⟨by decide, by decide, by decide +kernel⟩, ⟨(mg 558 (by decide +kernel) rfl), (mg 557 (by decide +kernel) rfl), (mg 154 (by decide +kernel) rfl)⟩, Or.inr ⟨"BingoHall", (mn 556 (by decide +kernel) rfl)⟩⟩
theorem lf_X4_9 : LF RX4 9 3 0 := ⟨by decide, by decide, (RX4, TX4, 12), rfl, rfl, rfl, inG3, Or.inl (mg 218 (by decide +kernel) rfl)⟩
theorem ms_X4_84 : LSt RX4 84 M_X6_waysOf 3 := ⟨⟨by decide, by decide, by decide +kernel⟩, ⟨(mg 562 (by decide +kernel) rfl), (mg 561 (by decide +kernel) rfl), (mg 154 (by decide +kernel) rfl)⟩, Or.inr ⟨"BingoHall", (mn 560 (by decide +kernel) rfl)⟩⟩
theorem lpt_3_0 : LPt 3 0 .int := ⟨(RX4, TX4, 12), rfl, ⟨tyX4, tyX4_ok⟩, nmX4, rfl, by decide +kernel⟩
theorem lpt_3_1 : LPt 3 1 .int := ⟨(RX4, TX4, 12), rfl, ⟨tyX4, tyX4_ok⟩, nmX4, rfl, by decide +kernel⟩
theorem lpt_3_2 : LPt 3 2 .int := ⟨(RX4, TX4, 12), rfl, ⟨tyX4, tyX4_ok⟩, nmX4, rfl, by decide +kernel⟩
theorem lpt_3_3 : LPt 3 3 .int := ⟨(RX4, TX4, 12), rfl, ⟨tyX4, tyX4_ok⟩, nmX4, rfl, by decide +kernel⟩
theorem mv_X4_53 : LVt RX4 53 RX4 M_X4_settle 0 := ⟨rfl, ⟨by decide, by decide, by decide +kernel⟩, ⟨(mg 531 (by decide +kernel) rfl), (mg 530 (by decide +kernel) rfl), (mg 4 (by decide +kernel) rfl), (mg 153 (by decide +kernel) rfl)⟩, Or.inl (mg 528 (by decide +kernel) rfl)⟩
theorem mv_X5_49 : LVt RX5 49 RX4 M_X4_clear 0 := ⟨rfl, ⟨by decide, by decide, by decide +kernel⟩, ⟨(mg 527 (by decide +kernel) rfl), (mg 526 (by decide +kernel) rfl), (mg 3 (by decide +kernel) rfl), (mg 153 (by decide +kernel) rfl)⟩, Or.inr ⟨"BingoHall", (mn 524 (by decide +kernel) rfl)⟩⟩
theorem lf_X5_18 : LF RX5 18 4 1 := ⟨by decide, by decide, (RX5, TX5, 10), rfl, rfl, rfl, inG4, Or.inl (mg 287 (by decide +kernel) rfl)⟩
theorem lpt_4_1 : LPt 4 1 .int := ⟨(RX5, TX5, 10), rfl, ⟨tyX5, tyX5_ok⟩, nmX5, rfl, by decide +kernel⟩
theorem lf_X5_22 : LF RX5 22 4 2 := ⟨by decide, by decide, (RX5, TX5, 10), rfl, rfl, rfl, inG4, Or.inl (mg 290 (by decide +kernel) rfl)⟩
theorem tp_4_2 {a : Nat} (h : SHk a = 4) : SHk (a + 9) = 10 := (ofs_all _ (List.mem_of_getElem? (i := 11) rfl) a (sh_lt h (by decide)) h).1
theorem tl_4_2 {a : Nat} (h : SHk a = 4) : LN (a + 9) = 3 := (ofs_all _ (List.mem_of_getElem? (i := 11) rfl) a (sh_lt h (by decide)) h).2
theorem ms_X5_52 : LSt RX5 52 M_J7_fill_53178 2 := ⟨⟨by decide, by decide, by decide +kernel⟩, ⟨(mg 567 (by decide +kernel) rfl), (mg 566 (by decide +kernel) rfl), (mg 161 (by decide +kernel) rfl)⟩, Or.inl (mg 565 (by decide +kernel) rfl)⟩
theorem lf_X5_26 : LF RX5 26 4 3 := ⟨by decide, by decide, (RX5, TX5, 10), rfl, rfl, rfl, inG4, Or.inl (mg 293 (by decide +kernel) rfl)⟩
theorem lpt_4_3 : LPt 4 3 .int := ⟨(RX5, TX5, 10), rfl, ⟨tyX5, tyX5_ok⟩, nmX5, rfl, by decide +kernel⟩
theorem lf_X5_29 : LF RX5 29 4 4 := ⟨by decide, by decide, (RX5, TX5, 10), rfl, rfl, rfl, inG4, Or.inl (mg 296 (by decide +kernel) rfl)⟩
theorem lpt_4_4 : LPt 4 4 .int := ⟨(RX5, TX5, 10), rfl, ⟨tyX5, tyX5_ok⟩, nmX5, rfl, by decide +kernel⟩
theorem lf_X5_32 : LF RX5 32 4 5 := ⟨by decide, by decide, (RX5, TX5, 10), rfl, rfl, rfl, inG4, Or.inl (mg 299 (by decide +kernel) rfl)⟩
theorem lpt_4_5 : LPt 4 5 .int := ⟨(RX5, TX5, 10), rfl, ⟨tyX5, tyX5_ok⟩, nmX5, rfl, by decide +kernel⟩
theorem cs_255 : (Int16.ofInt (255)).toInt32 = (255 : Int32) := by decide
theorem cb_32 : (Int8.ofInt (32)).toInt32 = (32 : Int32) := by decide
theorem cb_10 : (Int8.ofInt (10)).toInt32 = (10 : Int32) := by decide
theorem cb_48 : (Int8.ofInt (48)).toInt32 = (48 : Int32) := by decide
theorem cb_57 : (Int8.ofInt (57)).toInt32 = (57 : Int32) := by decide
theorem cb_97 : (Int8.ofInt (97)).toInt32 = (97 : Int32) := by decide
theorem cb_122 : (Int8.ofInt (122)).toInt32 = (122 : Int32) := by decide
theorem lf_X7_30 : LF RX7 30 6 4 := ⟨by decide, by decide, (RX7, TX7, 11), rfl, rfl, rfl, inG6, Or.inl (mg 378 (by decide +kernel) rfl)⟩
theorem mv_X7_185 : LVt RX7 185 RX7 M_X7_byteAt 1 := ⟨rfl, ⟨by decide, by decide, by decide +kernel⟩, ⟨(mg 575 (by decide +kernel) rfl), (mg 574 (by decide +kernel) rfl), (mg 11 (by decide +kernel) rfl), (mg 157 (by decide +kernel) rfl)⟩, Or.inl (mg 572 (by decide +kernel) rfl)⟩
theorem ms_X7_193 : LSt RX7 193 M_X7_isBlank 1 := ⟨⟨by decide, by decide, by decide +kernel⟩, ⟨(mg 578 (by decide +kernel) rfl), (mg 577 (by decide +kernel) rfl), (mg 157 (by decide +kernel) rfl)⟩, Or.inl (mg 576 (by decide +kernel) rfl)⟩
theorem lpt_6_4 : LPt 6 4 .int := ⟨(RX7, TX7, 11), rfl, ⟨tyX7, tyX7_ok⟩, nmX7, rfl, by decide +kernel⟩
theorem lf_X7_36 : LF RX7 36 6 6 := ⟨by decide, by decide, (RX7, TX7, 11), rfl, rfl, rfl, inG6, Or.inl (mg 380 (by decide +kernel) rfl)⟩
theorem lpt_6_6 : LPt 6 6 .int := ⟨(RX7, TX7, 11), rfl, ⟨tyX7, tyX7_ok⟩, nmX7, rfl, by decide +kernel⟩
theorem lf_X7_39 : LF RX7 39 6 7 := ⟨by decide, by decide, (RX7, TX7, 11), rfl, rfl, rfl, inG6, Or.inl (mg 381 (by decide +kernel) rfl)⟩
theorem lpt_6_7 : LPt 6 7 .int := ⟨(RX7, TX7, 11), rfl, ⟨tyX7, tyX7_ok⟩, nmX7, rfl, by decide +kernel⟩
theorem lf_X7_33 : LF RX7 33 6 5 := ⟨by decide, by decide, (RX7, TX7, 11), rfl, rfl, rfl, inG6, Or.inl (mg 379 (by decide +kernel) rfl)⟩
theorem lpt_6_5 : LPt 6 5 .int := ⟨(RX7, TX7, 11), rfl, ⟨tyX7, tyX7_ok⟩, nmX7, rfl, by decide +kernel⟩
theorem ms_X7_197 : LSt RX7 197 M_X7_isLetter 1 := ⟨⟨by decide, by decide, by decide +kernel⟩, ⟨(mg 581 (by decide +kernel) rfl), (mg 580 (by decide +kernel) rfl), (mg 157 (by decide +kernel) rfl)⟩, Or.inl (mg 579 (by decide +kernel) rfl)⟩
theorem ms_X7_200 : LSt RX7 200 M_X7_isDigit 1 := ⟨⟨by decide, by decide, by decide +kernel⟩, ⟨(mg 584 (by decide +kernel) rfl), (mg 583 (by decide +kernel) rfl), (mg 157 (by decide +kernel) rfl)⟩, Or.inl (mg 582 (by decide +kernel) rfl)⟩
theorem ci_2 : Int32.ofInt (2) = (2 : Int32) := by decide
theorem lc_X7_203 : Cond.constant RX7 203 (1000000) ∈ lw_good := (mg 585 (by decide +kernel) rfl)
theorem lm_X7_204 : LMath RX7 204 Lib.Math.min.name Lib.Math.min.code := ⟨(mg 586 (by decide +kernel) rfl), (mg 587 (by decide +kernel) rfl), (mg 162 (by decide +kernel) rfl), (mg 588 (by decide +kernel) rfl)⟩
theorem cb_59 : (Int8.ofInt (59)).toInt32 = (59 : Int32) := by decide
theorem mv_X7_51 : LVt RX7 51 RX5 M_X5_clear 0 := ⟨rfl, ⟨by decide, by decide, by decide +kernel⟩, ⟨(mg 523 (by decide +kernel) rfl), (mg 522 (by decide +kernel) rfl), (mg 2 (by decide +kernel) rfl), (mg 152 (by decide +kernel) rfl)⟩, Or.inr ⟨"BingoHall", (mn 520 (by decide +kernel) rfl)⟩⟩
theorem lf_X7_42 : LF RX7 42 6 8 := ⟨by decide, by decide, (RX7, TX7, 11), rfl, rfl, rfl, inG6, Or.inl (mg 382 (by decide +kernel) rfl)⟩
theorem lpt_6_8 : LPt 6 8 .int := ⟨(RX7, TX7, 11), rfl, ⟨tyX7, tyX7_ok⟩, nmX7, rfl, by decide +kernel⟩
theorem lf_X7_45 : LF RX7 45 6 9 := ⟨by decide, by decide, (RX7, TX7, 11), rfl, rfl, rfl, inG6, Or.inl (mg 384 (by decide +kernel) rfl)⟩
theorem lpt_6_9 : LPt 6 9 .int := ⟨(RX7, TX7, 11), rfl, ⟨tyX7, tyX7_ok⟩, nmX7, rfl, by decide +kernel⟩
theorem lf_X7_48 : LF RX7 48 6 10 := ⟨by decide, by decide, (RX7, TX7, 11), rfl, rfl, rfl, inG6, Or.inl (mg 386 (by decide +kernel) rfl)⟩
theorem lpt_6_10 : LPt 6 10 .int := ⟨(RX7, TX7, 11), rfl, ⟨tyX7, tyX7_ok⟩, nmX7, rfl, by decide +kernel⟩
theorem mv_X7_56 : LVt RX7 56 RX7 M_X7_takeToken 0 := ⟨rfl, ⟨by decide, by decide, by decide +kernel⟩, ⟨(mg 571 (by decide +kernel) rfl), (mg 570 (by decide +kernel) rfl), (mg 10 (by decide +kernel) rfl), (mg 157 (by decide +kernel) rfl)⟩, Or.inl (mg 568 (by decide +kernel) rfl)⟩
theorem mv_X7_68 : LVt RX7 68 RX7 M_X7_fail 1 := ⟨rfl, ⟨by decide, by decide, by decide +kernel⟩, ⟨(mg 653 (by decide +kernel) rfl), (mg 652 (by decide +kernel) rfl), (mg 15 (by decide +kernel) rfl), (mg 157 (by decide +kernel) rfl)⟩, Or.inl (mg 650 (by decide +kernel) rfl)⟩
theorem mv_X7_141 : LVt RX7 141 RX7 M_X7_isNumberOf 2 := ⟨rfl, ⟨by decide, by decide, by decide +kernel⟩, ⟨(mg 670 (by decide +kernel) rfl), (mg 669 (by decide +kernel) rfl), (mg 19 (by decide +kernel) rfl), (mg 157 (by decide +kernel) rfl)⟩, Or.inl (mg 667 (by decide +kernel) rfl)⟩
theorem lf_X7_136 : LF RX7 136 3 3 := ⟨by decide, by decide, (RX4, TX4, 12), rfl, rfl, rfl, inG3, Or.inr ⟨"BingoHall", (mn 234 (by decide +kernel) rfl)⟩⟩
theorem lf_X7_138 : LF RX7 138 3 4 := ⟨by decide, by decide, (RX4, TX4, 12), rfl, rfl, rfl, inG3, Or.inr ⟨"BingoHall", (mn 239 (by decide +kernel) rfl)⟩⟩
theorem cb_15 : (Int8.ofInt (15)).toInt32 = (15 : Int32) := by decide
theorem mv_X7_103 : LVt RX7 103 RX7 M_X7_takeNumber 2 := ⟨rfl, ⟨by decide, by decide, by decide +kernel⟩, ⟨(mg 666 (by decide +kernel) rfl), (mg 665 (by decide +kernel) rfl), (mg 18 (by decide +kernel) rfl), (mg 157 (by decide +kernel) rfl)⟩, Or.inl (mg 663 (by decide +kernel) rfl)⟩
theorem mv_X7_61 : LVt RX7 61 RX7 M_X7_isWord 1 := ⟨rfl, ⟨by decide, by decide, by decide +kernel⟩, ⟨(mg 601 (by decide +kernel) rfl), (mg 600 (by decide +kernel) rfl), (mg 14 (by decide +kernel) rfl), (mg 157 (by decide +kernel) rfl)⟩, Or.inl (mg 598 (by decide +kernel) rfl)⟩
theorem mv_X7_98 : LVt RX7 98 RX7 M_X7_takeWord 1 := ⟨rfl, ⟨by decide, by decide, by decide +kernel⟩, ⟨(mg 661 (by decide +kernel) rfl), (mg 660 (by decide +kernel) rfl), (mg 17 (by decide +kernel) rfl), (mg 157 (by decide +kernel) rfl)⟩, Or.inl (mg 658 (by decide +kernel) rfl)⟩
theorem lf_X7_112 : LF RX7 112 3 0 := ⟨by decide, by decide, (RX4, TX4, 12), rfl, rfl, rfl, inG3, Or.inr ⟨"BingoHall", (mn 220 (by decide +kernel) rfl)⟩⟩
theorem lf_X7_118 : LF RX7 118 3 1 := ⟨by decide, by decide, (RX4, TX4, 12), rfl, rfl, rfl, inG3, Or.inr ⟨"BingoHall", (mn 225 (by decide +kernel) rfl)⟩⟩
theorem lf_X7_122 : LF RX7 122 3 2 := ⟨by decide, by decide, (RX4, TX4, 12), rfl, rfl, rfl, inG3, Or.inr ⟨"BingoHall", (mn 229 (by decide +kernel) rfl)⟩⟩
theorem mv_X7_126 : LVt RX7 126 RX7 M_X7_readColumns 1 := ⟨rfl, ⟨by decide, by decide, by decide +kernel⟩, ⟨(mg 677 (by decide +kernel) rfl), (mg 676 (by decide +kernel) rfl), (mg 20 (by decide +kernel) rfl), (mg 157 (by decide +kernel) rfl)⟩, Or.inl (mg 674 (by decide +kernel) rfl)⟩
theorem mv_X7_129 : LVt RX7 129 RX4 M_X4_settle 0 := ⟨rfl, ⟨by decide, by decide, by decide +kernel⟩, ⟨(mg 531 (by decide +kernel) rfl), (mg 530 (by decide +kernel) rfl), (mg 4 (by decide +kernel) rfl), (mg 153 (by decide +kernel) rfl)⟩, Or.inr ⟨"BingoHall", (mn 678 (by decide +kernel) rfl)⟩⟩
theorem mv_X7_132 : LVt RX7 132 RX4 M_X4_isAsSaid 0 := ⟨rfl, ⟨by decide, by decide, by decide +kernel⟩, ⟨(mg 682 (by decide +kernel) rfl), (mg 681 (by decide +kernel) rfl), (mg 21 (by decide +kernel) rfl), (mg 153 (by decide +kernel) rfl)⟩, Or.inr ⟨"BingoHall", (mn 679 (by decide +kernel) rfl)⟩⟩
theorem cs_9999 : (Int16.ofInt (9999)).toInt32 = (9999 : Int32) := by decide
theorem lf_X7_154 : LF RX7 154 4 3 := ⟨by decide, by decide, (RX5, TX5, 10), rfl, rfl, rfl, inG4, Or.inr ⟨"BingoHall", (mn 294 (by decide +kernel) rfl)⟩⟩
theorem lf_X7_72 : LF RX7 72 4 0 := ⟨by decide, by decide, (RX5, TX5, 10), rfl, rfl, rfl, inG4, Or.inr ⟨"BingoHall", (mn 286 (by decide +kernel) rfl)⟩⟩
theorem lf_X7_159 : LF RX7 159 3 6 := ⟨by decide, by decide, (RX4, TX4, 12), rfl, rfl, rfl, inG3, Or.inr ⟨"BingoHall", (mn 247 (by decide +kernel) rfl)⟩⟩
theorem lf_X7_162 : LF RX7 162 4 4 := ⟨by decide, by decide, (RX5, TX5, 10), rfl, rfl, rfl, inG4, Or.inr ⟨"BingoHall", (mn 297 (by decide +kernel) rfl)⟩⟩
theorem lf_X7_151 : LF RX7 151 4 2 := ⟨by decide, by decide, (RX5, TX5, 10), rfl, rfl, rfl, inG4, Or.inr ⟨"BingoHall", (mn 291 (by decide +kernel) rfl)⟩⟩
theorem cb_45 : (Int8.ofInt (45)).toInt32 = (45 : Int32) := by decide
theorem lf_X2_72 : LF RX2 72 3 1 := ⟨by decide, by decide, (RX4, TX4, 12), rfl, rfl, rfl, inG3, Or.inr ⟨"BingoHall", (mn 224 (by decide +kernel) rfl)⟩⟩
theorem lf_X2_22 : LF RX2 22 1 2 := ⟨by decide, by decide, (RX2, TX2, 5), rfl, rfl, rfl, inG1, Or.inl (mg 351 (by decide +kernel) rfl)⟩
theorem tp_1_2 {a : Nat} (h : SHk a = 1) : SHk (a + 3) = 10 := (ofs_all _ (List.mem_of_getElem? (i := 2) rfl) a (sh_lt h (by decide)) h).1
theorem tl_1_2 {a : Nat} (h : SHk a = 1) : LN (a + 3) = 9 := (ofs_all _ (List.mem_of_getElem? (i := 2) rfl) a (sh_lt h (by decide)) h).2
theorem ms_X2_49 : LSt RX2 49 M_X6_digit 2 := ⟨⟨by decide, by decide, by decide +kernel⟩, ⟨(mg 745 (by decide +kernel) rfl), (mg 744 (by decide +kernel) rfl), (mg 154 (by decide +kernel) rfl)⟩, Or.inr ⟨"BingoHall", (mn 743 (by decide +kernel) rfl)⟩⟩
theorem mv_X2_106 : LVt RX2 106 RX4 M_X4_placeOf 3 := ⟨rfl, ⟨by decide, by decide, by decide +kernel⟩, ⟨(mg 756 (by decide +kernel) rfl), (mg 755 (by decide +kernel) rfl), (mg 34 (by decide +kernel) rfl), (mg 153 (by decide +kernel) rfl)⟩, Or.inr ⟨"BingoHall", (mn 753 (by decide +kernel) rfl)⟩⟩
theorem lf_X2_28 : LF RX2 28 1 4 := ⟨by decide, by decide, (RX2, TX2, 5), rfl, rfl, rfl, inG1, Or.inl (mg 353 (by decide +kernel) rfl)⟩
theorem tp_1_4 {a : Nat} (h : SHk a = 1) : SHk (a + 5) = 10 := (ofs_all _ (List.mem_of_getElem? (i := 4) rfl) a (sh_lt h (by decide)) h).1
theorem tl_1_4 {a : Nat} (h : SHk a = 1) : LN (a + 5) = 3 := (ofs_all _ (List.mem_of_getElem? (i := 4) rfl) a (sh_lt h (by decide)) h).2
theorem lf_X2_65 : LF RX2 65 3 0 := ⟨by decide, by decide, (RX4, TX4, 12), rfl, rfl, rfl, inG3, Or.inr ⟨"BingoHall", (mn 219 (by decide +kernel) rfl)⟩⟩
theorem lf_X2_18 : LF RX2 18 1 1 := ⟨by decide, by decide, (RX2, TX2, 5), rfl, rfl, rfl, inG1, Or.inl (mg 350 (by decide +kernel) rfl)⟩
theorem tp_1_1 {a : Nat} (h : SHk a = 1) : SHk (a + 2) = 10 := (ofs_all _ (List.mem_of_getElem? (i := 1) rfl) a (sh_lt h (by decide)) h).1
theorem tl_1_1 {a : Nat} (h : SHk a = 1) : LN (a + 2) = 3 := (ofs_all _ (List.mem_of_getElem? (i := 1) rfl) a (sh_lt h (by decide)) h).2
theorem lf_X2_25 : LF RX2 25 1 3 := ⟨by decide, by decide, (RX2, TX2, 5), rfl, rfl, rfl, inG1, Or.inl (mg 352 (by decide +kernel) rfl)⟩
theorem tp_1_3 {a : Nat} (h : SHk a = 1) : SHk (a + 4) = 10 := (ofs_all _ (List.mem_of_getElem? (i := 3) rfl) a (sh_lt h (by decide)) h).1
theorem tl_1_3 {a : Nat} (h : SHk a = 1) : LN (a + 4) = 15 := (ofs_all _ (List.mem_of_getElem? (i := 3) rfl) a (sh_lt h (by decide)) h).2
theorem ms_X2_99 : LSt RX2 99 M_X9_sortRising 2 := ⟨⟨by decide, by decide, by decide +kernel⟩, ⟨(mg 748 (by decide +kernel) rfl), (mg 747 (by decide +kernel) rfl), (mg 151 (by decide +kernel) rfl)⟩, Or.inr ⟨"BingoHall", (mn 746 (by decide +kernel) rfl)⟩⟩
theorem mv_X2_102 : LVt RX2 102 RX2 M_X2_layDown 4 := ⟨rfl, ⟨by decide, by decide, by decide +kernel⟩, ⟨(mg 752 (by decide +kernel) rfl), (mg 751 (by decide +kernel) rfl), (mg 33 (by decide +kernel) rfl), (mg 155 (by decide +kernel) rfl)⟩, Or.inl (mg 749 (by decide +kernel) rfl)⟩
theorem lf_X2_35 : LF RX2 35 3 8 := ⟨by decide, by decide, (RX4, TX4, 12), rfl, rfl, rfl, inG3, Or.inr ⟨"BingoHall", (mn 250 (by decide +kernel) rfl)⟩⟩
theorem mv_X2_41 : LVt RX2 41 RX3 M_X3_below 1 := ⟨rfl, ⟨by decide, by decide, by decide +kernel⟩, ⟨(mg 718 (by decide +kernel) rfl), (mg 717 (by decide +kernel) rfl), (mg 28 (by decide +kernel) rfl), (mg 156 (by decide +kernel) rfl)⟩, Or.inr ⟨"BingoHall", (mn 715 (by decide +kernel) rfl)⟩⟩
theorem mv_X4_88 : LVt RX4 88 RX6 M_X6_pick 5 := ⟨rfl, ⟨by decide, by decide, by decide +kernel⟩, ⟨(mg 731 (by decide +kernel) rfl), (mg 730 (by decide +kernel) rfl), (mg 30 (by decide +kernel) rfl), (mg 154 (by decide +kernel) rfl)⟩, Or.inr ⟨"BingoHall", (mn 728 (by decide +kernel) rfl)⟩⟩
theorem ms_X2_55 : LSt RX2 55 M_J7_fill_53178 2 := ⟨⟨by decide, by decide, by decide +kernel⟩, ⟨(mg 567 (by decide +kernel) rfl), (mg 566 (by decide +kernel) rfl), (mg 161 (by decide +kernel) rfl)⟩, Or.inl (mg 706 (by decide +kernel) rfl)⟩
theorem mv_X2_61 : LVt RX2 61 RX2 M_X2_drawnPlan 2 := ⟨rfl, ⟨by decide, by decide, by decide +kernel⟩, ⟨(mg 710 (by decide +kernel) rfl), (mg 709 (by decide +kernel) rfl), (mg 26 (by decide +kernel) rfl), (mg 155 (by decide +kernel) rfl)⟩, Or.inl (mg 707 (by decide +kernel) rfl)⟩
theorem mv_X2_45 : LVt RX2 45 RX4 M_X4_putPlan 2 := ⟨rfl, ⟨by decide, by decide, by decide +kernel⟩, ⟨(mg 727 (by decide +kernel) rfl), (mg 726 (by decide +kernel) rfl), (mg 29 (by decide +kernel) rfl), (mg 153 (by decide +kernel) rfl)⟩, Or.inr ⟨"BingoHall", (mn 724 (by decide +kernel) rfl)⟩⟩
theorem lf_X2_68 : LF RX2 68 3 11 := ⟨by decide, by decide, (RX4, TX4, 12), rfl, rfl, rfl, inG3, Or.inr ⟨"BingoHall", (mn 255 (by decide +kernel) rfl)⟩⟩
theorem ms_X2_75 : LSt RX2 75 M_X6_waysOf 3 := ⟨⟨by decide, by decide, by decide +kernel⟩, ⟨(mg 562 (by decide +kernel) rfl), (mg 561 (by decide +kernel) rfl), (mg 154 (by decide +kernel) rfl)⟩, Or.inr ⟨"BingoHall", (mn 732 (by decide +kernel) rfl)⟩⟩
theorem mv_X2_79 : LVt RX2 79 RX6 M_X6_pick 5 := ⟨rfl, ⟨by decide, by decide, by decide +kernel⟩, ⟨(mg 731 (by decide +kernel) rfl), (mg 730 (by decide +kernel) rfl), (mg 30 (by decide +kernel) rfl), (mg 154 (by decide +kernel) rfl)⟩, Or.inr ⟨"BingoHall", (mn 733 (by decide +kernel) rfl)⟩⟩
theorem lf_X2_83 : LF RX2 83 3 3 := ⟨by decide, by decide, (RX4, TX4, 12), rfl, rfl, rfl, inG3, Or.inr ⟨"BingoHall", (mn 233 (by decide +kernel) rfl)⟩⟩
theorem lf_X2_86 : LF RX2 86 3 4 := ⟨by decide, by decide, (RX4, TX4, 12), rfl, rfl, rfl, inG3, Or.inr ⟨"BingoHall", (mn 237 (by decide +kernel) rfl)⟩⟩
theorem lf_X2_89 : LF RX2 89 3 5 := ⟨by decide, by decide, (RX4, TX4, 12), rfl, rfl, rfl, inG3, Or.inr ⟨"BingoHall", (mn 241 (by decide +kernel) rfl)⟩⟩
theorem mv_X2_95 : LVt RX2 95 RX2 M_X2_dealColumn 3 := ⟨rfl, ⟨by decide, by decide, by decide +kernel⟩, ⟨(mg 742 (by decide +kernel) rfl), (mg 741 (by decide +kernel) rfl), (mg 32 (by decide +kernel) rfl), (mg 155 (by decide +kernel) rfl)⟩, Or.inl (mg 739 (by decide +kernel) rfl)⟩
theorem cb_8 : (Int8.ofInt (8)).toInt32 = (8 : Int32) := by decide
theorem lf_X5_35 : LF RX5 35 4 6 := ⟨by decide, by decide, (RX5, TX5, 10), rfl, rfl, rfl, inG4, Or.inl (mg 302 (by decide +kernel) rfl)⟩
theorem tp_4_6 {a : Nat} (h : SHk a = 4) : SHk (a + 10) = 10 := (ofs_all _ (List.mem_of_getElem? (i := 12) rfl) a (sh_lt h (by decide)) h).1
theorem tl_4_6 {a : Nat} (h : SHk a = 4) : LN (a + 10) = 8 := (ofs_all _ (List.mem_of_getElem? (i := 12) rfl) a (sh_lt h (by decide)) h).2
theorem lf_X5_40 : LF RX5 40 4 7 := ⟨by decide, by decide, (RX5, TX5, 10), rfl, rfl, rfl, inG4, Or.inl (mg 304 (by decide +kernel) rfl)⟩
theorem tp_4_7 {a : Nat} (h : SHk a = 4) : SHk (a + 11) = 14 := (ofs_all _ (List.mem_of_getElem? (i := 13) rfl) a (sh_lt h (by decide)) h).1
theorem tl_4_7 {a : Nat} (h : SHk a = 4) : LN (a + 11) = 8 := (ofs_all _ (List.mem_of_getElem? (i := 13) rfl) a (sh_lt h (by decide)) h).2
theorem la_X5_62 : LCp RX5 62 := ⟨(mg 768 (by decide +kernel) rfl), (mg 770 (by decide +kernel) rfl), (mg 769 (by decide +kernel) rfl), (mg 167 (by decide +kernel) rfl)⟩
theorem ms_X5_68 : LSt RX5 68 M_X9_areSame 2 := ⟨⟨by decide, by decide, by decide +kernel⟩, ⟨(mg 763 (by decide +kernel) rfl), (mg 762 (by decide +kernel) rfl), (mg 151 (by decide +kernel) rfl)⟩, Or.inr ⟨"BingoHall", (mn 761 (by decide +kernel) rfl)⟩⟩
theorem lf_X7_164 : LF RX7 164 4 5 := ⟨by decide, by decide, (RX5, TX5, 10), rfl, rfl, rfl, inG4, Or.inr ⟨"BingoHall", (mn 300 (by decide +kernel) rfl)⟩⟩
theorem lf_X7_22 : LF RX7 22 6 2 := ⟨by decide, by decide, (RX7, TX7, 11), rfl, rfl, rfl, inG6, Or.inl (mg 376 (by decide +kernel) rfl)⟩
theorem sk_55 : SHk 55 = 1 := by decide +kernel
theorem lf_X7_26 : LF RX7 26 6 3 := ⟨by decide, by decide, (RX7, TX7, 11), rfl, rfl, rfl, inG6, Or.inl (mg 377 (by decide +kernel) rfl)⟩
theorem sk_61 : SHk 61 = 10 := by decide +kernel
theorem ln_61 : LN 61 = 45 := by decide +kernel
theorem mv_X7_167 : LVt RX7 167 RX2 M_X2_deal 3 := ⟨rfl, ⟨by decide, by decide, by decide +kernel⟩, ⟨(mg 705 (by decide +kernel) rfl), (mg 704 (by decide +kernel) rfl), (mg 25 (by decide +kernel) rfl), (mg 155 (by decide +kernel) rfl)⟩, Or.inr ⟨"BingoHall", (mn 702 (by decide +kernel) rfl)⟩⟩
theorem mv_X7_171 : LVt RX7 171 RX5 M_X5_hasSold 1 := ⟨rfl, ⟨by decide, by decide, by decide +kernel⟩, ⟨(mg 760 (by decide +kernel) rfl), (mg 759 (by decide +kernel) rfl), (mg 35 (by decide +kernel) rfl), (mg 152 (by decide +kernel) rfl)⟩, Or.inr ⟨"BingoHall", (mn 757 (by decide +kernel) rfl)⟩⟩
theorem mv_X7_175 : LVt RX7 175 RX5 M_X5_addSold 2 := ⟨rfl, ⟨by decide, by decide, by decide +kernel⟩, ⟨(mg 767 (by decide +kernel) rfl), (mg 766 (by decide +kernel) rfl), (mg 36 (by decide +kernel) rfl), (mg 152 (by decide +kernel) rfl)⟩, Or.inr ⟨"BingoHall", (mn 764 (by decide +kernel) rfl)⟩⟩
theorem lf_X7_65 : LF RX7 65 4 1 := ⟨by decide, by decide, (RX5, TX5, 10), rfl, rfl, rfl, inG4, Or.inr ⟨"BingoHall", (mn 289 (by decide +kernel) rfl)⟩⟩
theorem mv_X7_107 : LVt RX7 107 RX7 M_X7_takeSign 0 := ⟨rfl, ⟨by decide, by decide, by decide +kernel⟩, ⟨(mg 776 (by decide +kernel) rfl), (mg 775 (by decide +kernel) rfl), (mg 37 (by decide +kernel) rfl), (mg 157 (by decide +kernel) rfl)⟩, Or.inl (mg 773 (by decide +kernel) rfl)⟩
theorem mv_X7_76 : LVt RX7 76 RX7 M_X7_readForm 1 := ⟨rfl, ⟨by decide, by decide, by decide +kernel⟩, ⟨(mg 657 (by decide +kernel) rfl), (mg 656 (by decide +kernel) rfl), (mg 16 (by decide +kernel) rfl), (mg 157 (by decide +kernel) rfl)⟩, Or.inl (mg 654 (by decide +kernel) rfl)⟩
theorem mv_X7_82 : LVt RX7 82 RX7 M_X7_readPrize 1 := ⟨rfl, ⟨by decide, by decide, by decide +kernel⟩, ⟨(mg 687 (by decide +kernel) rfl), (mg 686 (by decide +kernel) rfl), (mg 22 (by decide +kernel) rfl), (mg 157 (by decide +kernel) rfl)⟩, Or.inl (mg 684 (by decide +kernel) rfl)⟩
theorem mv_X7_88 : LVt RX7 88 RX7 M_X7_readJackpot 1 := ⟨rfl, ⟨by decide, by decide, by decide +kernel⟩, ⟨(mg 695 (by decide +kernel) rfl), (mg 694 (by decide +kernel) rfl), (mg 23 (by decide +kernel) rfl), (mg 157 (by decide +kernel) rfl)⟩, Or.inl (mg 692 (by decide +kernel) rfl)⟩
theorem mv_X7_93 : LVt RX7 93 RX7 M_X7_readSold 1 := ⟨rfl, ⟨by decide, by decide, by decide +kernel⟩, ⟨(mg 701 (by decide +kernel) rfl), (mg 700 (by decide +kernel) rfl), (mg 24 (by decide +kernel) rfl), (mg 157 (by decide +kernel) rfl)⟩, Or.inl (mg 698 (by decide +kernel) rfl)⟩
theorem lc_X7_102 : Cond.constant RX7 102 (99999) ∈ lw_good := (mg 772 (by decide +kernel) rfl)
theorem lf_X9_16 : LF RX9 16 8 1 := ⟨by decide, by decide, (RX9, TX9, 14), rfl, rfl, rfl, inG8, Or.inl (mg 458 (by decide +kernel) rfl)⟩
theorem mv_X9_84 : LVt RX9 84 RX7 M_X7_begin 1 := ⟨rfl, ⟨by decide, by decide, by decide +kernel⟩, ⟨(mg 519 (by decide +kernel) rfl), (mg 518 (by decide +kernel) rfl), (mg 1 (by decide +kernel) rfl), (mg 157 (by decide +kernel) rfl)⟩, Or.inr ⟨"BingoHall", (mn 516 (by decide +kernel) rfl)⟩⟩
theorem mv_X9_88 : LVt RX9 88 RX7 M_X7_hasLine 0 := ⟨rfl, ⟨by decide, by decide, by decide +kernel⟩, ⟨(mg 592 (by decide +kernel) rfl), (mg 591 (by decide +kernel) rfl), (mg 12 (by decide +kernel) rfl), (mg 157 (by decide +kernel) rfl)⟩, Or.inr ⟨"BingoHall", (mn 589 (by decide +kernel) rfl)⟩⟩
theorem mv_X9_92 : LVt RX9 92 RX7 M_X7_readLine 1 := ⟨rfl, ⟨by decide, by decide, by decide +kernel⟩, ⟨(mg 596 (by decide +kernel) rfl), (mg 595 (by decide +kernel) rfl), (mg 13 (by decide +kernel) rfl), (mg 157 (by decide +kernel) rfl)⟩, Or.inr ⟨"BingoHall", (mn 593 (by decide +kernel) rfl)⟩⟩
theorem lf_X9_95 : LF RX9 95 6 9 := ⟨by decide, by decide, (RX7, TX7, 11), rfl, rfl, rfl, inG6, Or.inr ⟨"BingoHall", (mn 385 (by decide +kernel) rfl)⟩⟩
theorem cbm_4 : (Int8.ofInt (-4)).toInt32 = (-4 : Int32) := by decide
theorem lf_X9_30 : LF RX9 30 8 4 := ⟨by decide, by decide, (RX9, TX9, 14), rfl, rfl, rfl, inG8, Or.inl (mg 461 (by decide +kernel) rfl)⟩
theorem sk_47 : SHk 47 = 1 := by decide +kernel
theorem lf_X9_98 : LF RX9 98 4 0 := ⟨by decide, by decide, (RX5, TX5, 10), rfl, rfl, rfl, inG4, Or.inr ⟨"BingoHall", (mn 285 (by decide +kernel) rfl)⟩⟩
theorem lf_X9_102 : LF RX9 102 6 8 := ⟨by decide, by decide, (RX7, TX7, 11), rfl, rfl, rfl, inG6, Or.inr ⟨"BingoHall", (mn 383 (by decide +kernel) rfl)⟩⟩
theorem lf_X9_105 : LF RX9 105 4 8 := ⟨by decide, by decide, (RX5, TX5, 10), rfl, rfl, rfl, inG4, Or.inr ⟨"BingoHall", (mn 307 (by decide +kernel) rfl)⟩⟩
theorem mv_X9_108 : LVt RX9 108 RX2 M_X2_mixCalls 3 := ⟨rfl, ⟨by decide, by decide, by decide +kernel⟩, ⟨(mg 780 (by decide +kernel) rfl), (mg 779 (by decide +kernel) rfl), (mg 38 (by decide +kernel) rfl), (mg 155 (by decide +kernel) rfl)⟩, Or.inr ⟨"BingoHall", (mn 777 (by decide +kernel) rfl)⟩⟩
theorem mv_X9_112 : LVt RX9 112 RX5 M_X5_noteTurns 0 := ⟨rfl, ⟨by decide, by decide, by decide +kernel⟩, ⟨(mg 784 (by decide +kernel) rfl), (mg 783 (by decide +kernel) rfl), (mg 39 (by decide +kernel) rfl), (mg 152 (by decide +kernel) rfl)⟩, Or.inr ⟨"BingoHall", (mn 781 (by decide +kernel) rfl)⟩⟩
theorem lf_X9_10 : LF RX9 10 8 0 := ⟨by decide, by decide, (RX9, TX9, 14), rfl, rfl, rfl, inG8, Or.inl (mg 457 (by decide +kernel) rfl)⟩
theorem lpt_8_0 : LPt 8 0 (.object "BingoHall$Hall") := ⟨(RX9, TX9, 14), rfl, ⟨tyX9, tyX9_ok⟩, nmX9, rfl, by decide +kernel⟩
theorem lpt_8_1 : LPt 8 1 (.object "BingoHall$Hall") := ⟨(RX9, TX9, 14), rfl, ⟨tyX9, tyX9_ok⟩, nmX9, rfl, by decide +kernel⟩
theorem lf_X9_115 : LF RX9 115 4 1 := ⟨by decide, by decide, (RX5, TX5, 10), rfl, rfl, rfl, inG4, Or.inr ⟨"BingoHall", (mn 288 (by decide +kernel) rfl)⟩⟩
theorem lf_X9_118 : LF RX9 118 6 10 := ⟨by decide, by decide, (RX7, TX7, 11), rfl, rfl, rfl, inG6, Or.inr ⟨"BingoHall", (mn 387 (by decide +kernel) rfl)⟩⟩
theorem mv_X9_133 : LVt RX9 133 RX9 M_X9_isHall 0 := ⟨rfl, ⟨by decide, by decide, by decide +kernel⟩, ⟨(mg 803 (by decide +kernel) rfl), (mg 802 (by decide +kernel) rfl), (mg 41 (by decide +kernel) rfl), (mg 151 (by decide +kernel) rfl)⟩, Or.inl (mg 800 (by decide +kernel) rfl)⟩
theorem lf_X9_159 : LF RX9 159 3 3 := ⟨by decide, by decide, (RX4, TX4, 12), rfl, rfl, rfl, inG3, Or.inr ⟨"BingoHall", (mn 235 (by decide +kernel) rfl)⟩⟩
theorem mv_X9_121 : LVt RX9 121 RX9 M_X9_isColumn 1 := ⟨rfl, ⟨by decide, by decide, by decide +kernel⟩, ⟨(mg 799 (by decide +kernel) rfl), (mg 798 (by decide +kernel) rfl), (mg 40 (by decide +kernel) rfl), (mg 151 (by decide +kernel) rfl)⟩, Or.inl (mg 796 (by decide +kernel) rfl)⟩
theorem cbm_2 : (Int8.ofInt (-2)).toInt32 = (-2 : Int32) := by decide
theorem lf_X9_125 : LF RX9 125 3 5 := ⟨by decide, by decide, (RX4, TX4, 12), rfl, rfl, rfl, inG3, Or.inr ⟨"BingoHall", (mn 242 (by decide +kernel) rfl)⟩⟩
theorem lf_X9_130 : LF RX9 130 3 4 := ⟨by decide, by decide, (RX4, TX4, 12), rfl, rfl, rfl, inG3, Or.inr ⟨"BingoHall", (mn 238 (by decide +kernel) rfl)⟩⟩
theorem lf_X9_136 : LF RX9 136 3 6 := ⟨by decide, by decide, (RX4, TX4, 12), rfl, rfl, rfl, inG3, Or.inr ⟨"BingoHall", (mn 246 (by decide +kernel) rfl)⟩⟩
theorem lf_X9_139 : LF RX9 139 3 8 := ⟨by decide, by decide, (RX4, TX4, 12), rfl, rfl, rfl, inG3, Or.inr ⟨"BingoHall", (mn 251 (by decide +kernel) rfl)⟩⟩
theorem lf_X9_200 : LF RX9 200 3 0 := ⟨by decide, by decide, (RX4, TX4, 12), rfl, rfl, rfl, inG3, Or.inr ⟨"BingoHall", (mn 221 (by decide +kernel) rfl)⟩⟩
theorem mv_X9_142 : LVt RX9 142 RX9 M_X9_isCard 1 := ⟨rfl, ⟨by decide, by decide, by decide +kernel⟩, ⟨(mg 819 (by decide +kernel) rfl), (mg 818 (by decide +kernel) rfl), (mg 42 (by decide +kernel) rfl), (mg 151 (by decide +kernel) rfl)⟩, Or.inl (mg 816 (by decide +kernel) rfl)⟩
theorem mv_X9_145 : LVt RX9 145 RX2 M_X2_planned 4 := ⟨rfl, ⟨by decide, by decide, by decide +kernel⟩, ⟨(mg 823 (by decide +kernel) rfl), (mg 822 (by decide +kernel) rfl), (mg 43 (by decide +kernel) rfl), (mg 155 (by decide +kernel) rfl)⟩, Or.inr ⟨"BingoHall", (mn 820 (by decide +kernel) rfl)⟩⟩
theorem sk_62 : SHk 62 = 7 := by decide +kernel
theorem mv_X8_27 : LVt RX8 27 RX8 M_X8_isSlot 1 := ⟨rfl, ⟨by decide, by decide, by decide +kernel⟩, ⟨(mg 831 (by decide +kernel) rfl), (mg 830 (by decide +kernel) rfl), (mg 44 (by decide +kernel) rfl), (mg 158 (by decide +kernel) rfl)⟩, Or.inl (mg 836 (by decide +kernel) rfl)⟩
theorem lf_X8_23 : LF RX8 23 7 3 := ⟨by decide, by decide, (RX8, TX8, 4), rfl, rfl, rfl, inG7, Or.inl (mg 423 (by decide +kernel) rfl)⟩
theorem sk_70 : SHk 70 = 13 := by decide +kernel
theorem ln_70 : LN 70 = 4 := by decide +kernel
theorem mv_X8_31 : LVt RX8 31 RX8 M_X8_hasRow 1 := ⟨rfl, ⟨by decide, by decide, by decide +kernel⟩, ⟨(mg 835 (by decide +kernel) rfl), (mg 834 (by decide +kernel) rfl), (mg 45 (by decide +kernel) rfl), (mg 158 (by decide +kernel) rfl)⟩, Or.inl (mg 841 (by decide +kernel) rfl)⟩
theorem lf_X8_16 : LF RX8 16 7 1 := ⟨by decide, by decide, (RX8, TX8, 4), rfl, rfl, rfl, inG7, Or.inl (mg 421 (by decide +kernel) rfl)⟩
theorem sk_68 : SHk 68 = 10 := by decide +kernel
theorem ln_68 : LN 68 = 4 := by decide +kernel
theorem mv_X8_34 : LVt RX8 34 RX8 M_X8_lengthOf 1 := ⟨rfl, ⟨by decide, by decide, by decide +kernel⟩, ⟨(mg 840 (by decide +kernel) rfl), (mg 839 (by decide +kernel) rfl), (mg 46 (by decide +kernel) rfl), (mg 158 (by decide +kernel) rfl)⟩, Or.inl (mg 850 (by decide +kernel) rfl)⟩
theorem mv_X8_38 : LVt RX8 38 RX8 M_X8_holds 3 := ⟨rfl, ⟨by decide, by decide, by decide +kernel⟩, ⟨(mg 849 (by decide +kernel) rfl), (mg 848 (by decide +kernel) rfl), (mg 48 (by decide +kernel) rfl), (mg 158 (by decide +kernel) rfl)⟩, Or.inl (mg 846 (by decide +kernel) rfl)⟩
theorem lf_X8_13 : LF RX8 13 7 0 := ⟨by decide, by decide, (RX8, TX8, 4), rfl, rfl, rfl, inG7, Or.inl (mg 420 (by decide +kernel) rfl)⟩
theorem sk_63 : SHk 63 = 15 := by decide +kernel
theorem ln_63 : LN 63 = 4 := by decide +kernel
theorem lf_X9_44 : LF RX9 44 8 6 := ⟨by decide, by decide, (RX9, TX9, 14), rfl, rfl, rfl, inG8, Or.inl (mg 463 (by decide +kernel) rfl)⟩
theorem mv_X9_149 : LVt RX9 149 RX8 M_X8_isSlot 1 := ⟨rfl, ⟨by decide, by decide, by decide +kernel⟩, ⟨(mg 831 (by decide +kernel) rfl), (mg 830 (by decide +kernel) rfl), (mg 44 (by decide +kernel) rfl), (mg 158 (by decide +kernel) rfl)⟩, Or.inr ⟨"BingoHall", (mn 828 (by decide +kernel) rfl)⟩⟩
theorem mv_X9_152 : LVt RX9 152 RX8 M_X8_hasRow 1 := ⟨rfl, ⟨by decide, by decide, by decide +kernel⟩, ⟨(mg 835 (by decide +kernel) rfl), (mg 834 (by decide +kernel) rfl), (mg 45 (by decide +kernel) rfl), (mg 158 (by decide +kernel) rfl)⟩, Or.inr ⟨"BingoHall", (mn 832 (by decide +kernel) rfl)⟩⟩
theorem cbm_6 : (Int8.ofInt (-6)).toInt32 = (-6 : Int32) := by decide
theorem mv_X9_155 : LVt RX9 155 RX8 M_X8_lengthOf 1 := ⟨rfl, ⟨by decide, by decide, by decide +kernel⟩, ⟨(mg 840 (by decide +kernel) rfl), (mg 839 (by decide +kernel) rfl), (mg 46 (by decide +kernel) rfl), (mg 158 (by decide +kernel) rfl)⟩, Or.inr ⟨"BingoHall", (mn 837 (by decide +kernel) rfl)⟩⟩
theorem cbm_7 : (Int8.ofInt (-7)).toInt32 = (-7 : Int32) := by decide
theorem mv_X9_162 : LVt RX9 162 RX8 M_X8_valueAt 2 := ⟨rfl, ⟨by decide, by decide, by decide +kernel⟩, ⟨(mg 845 (by decide +kernel) rfl), (mg 844 (by decide +kernel) rfl), (mg 47 (by decide +kernel) rfl), (mg 158 (by decide +kernel) rfl)⟩, Or.inr ⟨"BingoHall", (mn 842 (by decide +kernel) rfl)⟩⟩
theorem lf_X9_166 : LF RX9 166 3 1 := ⟨by decide, by decide, (RX4, TX4, 12), rfl, rfl, rfl, inG3, Or.inr ⟨"BingoHall", (mn 226 (by decide +kernel) rfl)⟩⟩
theorem ms_X9_169 : LSt RX9 169 M_X6_packed 2 := ⟨⟨by decide, by decide, by decide +kernel⟩, ⟨(mg 534 (by decide +kernel) rfl), (mg 533 (by decide +kernel) rfl), (mg 154 (by decide +kernel) rfl)⟩, Or.inr ⟨"BingoHall", (mn 851 (by decide +kernel) rfl)⟩⟩
theorem lf_X9_175 : LF RX9 175 3 11 := ⟨by decide, by decide, (RX4, TX4, 12), rfl, rfl, rfl, inG3, Or.inr ⟨"BingoHall", (mn 256 (by decide +kernel) rfl)⟩⟩
theorem ms_X9_179 : LSt RX9 179 M_X6_waysOf 3 := ⟨⟨by decide, by decide, by decide +kernel⟩, ⟨(mg 562 (by decide +kernel) rfl), (mg 561 (by decide +kernel) rfl), (mg 154 (by decide +kernel) rfl)⟩, Or.inr ⟨"BingoHall", (mn 852 (by decide +kernel) rfl)⟩⟩
theorem mv_X9_183 : LVt RX9 183 RX9 M_X9_isSerial 1 := ⟨rfl, ⟨by decide, by decide, by decide +kernel⟩, ⟨(mg 860 (by decide +kernel) rfl), (mg 859 (by decide +kernel) rfl), (mg 49 (by decide +kernel) rfl), (mg 151 (by decide +kernel) rfl)⟩, Or.inl (mg 857 (by decide +kernel) rfl)⟩
theorem mv_X9_186 : LVt RX9 186 RX2 M_X2_drawnPlan 2 := ⟨rfl, ⟨by decide, by decide, by decide +kernel⟩, ⟨(mg 710 (by decide +kernel) rfl), (mg 709 (by decide +kernel) rfl), (mg 26 (by decide +kernel) rfl), (mg 155 (by decide +kernel) rfl)⟩, Or.inr ⟨"BingoHall", (mn 861 (by decide +kernel) rfl)⟩⟩
theorem lf_X9_55 : LF RX9 55 8 8 := ⟨by decide, by decide, (RX9, TX9, 14), rfl, rfl, rfl, inG8, Or.inl (mg 465 (by decide +kernel) rfl)⟩
theorem sk_74 : SHk 74 = 10 := by decide +kernel
theorem ln_74 : LN 74 = 45 := by decide +kernel
theorem mv_X9_190 : LVt RX9 190 RX2 M_X2_deal 3 := ⟨rfl, ⟨by decide, by decide, by decide +kernel⟩, ⟨(mg 705 (by decide +kernel) rfl), (mg 704 (by decide +kernel) rfl), (mg 25 (by decide +kernel) rfl), (mg 155 (by decide +kernel) rfl)⟩, Or.inr ⟨"BingoHall", (mn 866 (by decide +kernel) rfl)⟩⟩
theorem mv_X9_193 : LVt RX9 193 RX4 M_X4_placeOf 3 := ⟨rfl, ⟨by decide, by decide, by decide +kernel⟩, ⟨(mg 756 (by decide +kernel) rfl), (mg 755 (by decide +kernel) rfl), (mg 34 (by decide +kernel) rfl), (mg 153 (by decide +kernel) rfl)⟩, Or.inr ⟨"BingoHall", (mn 867 (by decide +kernel) rfl)⟩⟩
theorem mv_X9_197 : LVt RX9 197 RX9 M_X9_isNumber 1 := ⟨rfl, ⟨by decide, by decide, by decide +kernel⟩, ⟨(mg 875 (by decide +kernel) rfl), (mg 874 (by decide +kernel) rfl), (mg 50 (by decide +kernel) rfl), (mg 151 (by decide +kernel) rfl)⟩, Or.inl (mg 872 (by decide +kernel) rfl)⟩
theorem cb_100 : (Int8.ofInt (100)).toInt32 = (100 : Int32) := by decide
theorem lf_X9_59 : LF RX9 59 8 9 := ⟨by decide, by decide, (RX9, TX9, 14), rfl, rfl, rfl, inG8, Or.inl (mg 466 (by decide +kernel) rfl)⟩
theorem sk_75 : SHk 75 = 10 := by decide +kernel
theorem ln_75 : LN 75 = 45 := by decide +kernel
theorem ms_X9_203 : LSt RX9 203 M_X9_areSame 2 := ⟨⟨by decide, by decide, by decide +kernel⟩, ⟨(mg 763 (by decide +kernel) rfl), (mg 762 (by decide +kernel) rfl), (mg 151 (by decide +kernel) rfl)⟩, Or.inl (mg 880 (by decide +kernel) rfl)⟩
theorem ll_J13_314 : Cond.constantLong RJ13 314 (6148914691236517205) ∈ lw_good := (mg 893 (by decide +kernel) rfl)
theorem ll_J13_316 : Cond.constantLong RJ13 316 (3689348814741910323) ∈ lw_good := (mg 894 (by decide +kernel) rfl)
theorem ll_J13_318 : Cond.constantLong RJ13 318 (1085102592571150095) ∈ lw_good := (mg 895 (by decide +kernel) rfl)
theorem cb_16 : (Int8.ofInt (16)).toInt32 = (16 : Int32) := by decide
theorem cb_127 : (Int8.ofInt (127)).toInt32 = (127 : Int32) := by decide
theorem mv_X4_92 : LVt RX4 92 RX4 M_X4_placeOf 3 := ⟨rfl, ⟨by decide, by decide, by decide +kernel⟩, ⟨(mg 756 (by decide +kernel) rfl), (mg 755 (by decide +kernel) rfl), (mg 34 (by decide +kernel) rfl), (mg 153 (by decide +kernel) rfl)⟩, Or.inl (mg 889 (by decide +kernel) rfl)⟩
theorem mv_X9_207 : LVt RX9 207 RX4 M_X4_numbersOf 2 := ⟨rfl, ⟨by decide, by decide, by decide +kernel⟩, ⟨(mg 888 (by decide +kernel) rfl), (mg 887 (by decide +kernel) rfl), (mg 51 (by decide +kernel) rfl), (mg 153 (by decide +kernel) rfl)⟩, Or.inr ⟨"BingoHall", (mn 885 (by decide +kernel) rfl)⟩⟩
theorem ms_X9_211 : LSt RX9 211 M_J13_bitCount_95d88 1 := ⟨⟨by decide, by decide, by decide +kernel⟩, ⟨(mg 892 (by decide +kernel) rfl), (mg 891 (by decide +kernel) rfl), (mg 168 (by decide +kernel) rfl)⟩, Or.inl (mg 890 (by decide +kernel) rfl)⟩
theorem lf_X9_217 : LF RX9 217 4 5 := ⟨by decide, by decide, (RX5, TX5, 10), rfl, rfl, rfl, inG4, Or.inr ⟨"BingoHall", (mn 301 (by decide +kernel) rfl)⟩⟩
theorem cbm_3 : (Int8.ofInt (-3)).toInt32 = (-3 : Int32) := by decide
theorem mv_X9_220 : LVt RX9 220 RX5 M_X5_hasSold 1 := ⟨rfl, ⟨by decide, by decide, by decide +kernel⟩, ⟨(mg 760 (by decide +kernel) rfl), (mg 759 (by decide +kernel) rfl), (mg 35 (by decide +kernel) rfl), (mg 152 (by decide +kernel) rfl)⟩, Or.inr ⟨"BingoHall", (mn 900 (by decide +kernel) rfl)⟩⟩
theorem cbm_5 : (Int8.ofInt (-5)).toInt32 = (-5 : Int32) := by decide
theorem mv_X9_224 : LVt RX9 224 RX5 M_X5_addSold 2 := ⟨rfl, ⟨by decide, by decide, by decide +kernel⟩, ⟨(mg 767 (by decide +kernel) rfl), (mg 766 (by decide +kernel) rfl), (mg 36 (by decide +kernel) rfl), (mg 152 (by decide +kernel) rfl)⟩, Or.inr ⟨"BingoHall", (mn 901 (by decide +kernel) rfl)⟩⟩
theorem mv_X9_228 : LVt RX9 228 RX9 M_X9_isPlace 1 := ⟨rfl, ⟨by decide, by decide, by decide +kernel⟩, ⟨(mg 913 (by decide +kernel) rfl), (mg 912 (by decide +kernel) rfl), (mg 52 (by decide +kernel) rfl), (mg 151 (by decide +kernel) rfl)⟩, Or.inl (mg 910 (by decide +kernel) rfl)⟩
theorem lf_X9_231 : LF RX9 231 4 6 := ⟨by decide, by decide, (RX5, TX5, 10), rfl, rfl, rfl, inG4, Or.inr ⟨"BingoHall", (mn 303 (by decide +kernel) rfl)⟩⟩
theorem lc_X9_234 : Cond.constant RX9 234 (2000000000) ∈ lw_good := (mg 918 (by decide +kernel) rfl)
theorem mv_X9_235 : LVt RX9 235 RX9 M_X9_isEachNumberOnce 1 := ⟨rfl, ⟨by decide, by decide, by decide +kernel⟩, ⟨(mg 926 (by decide +kernel) rfl), (mg 925 (by decide +kernel) rfl), (mg 53 (by decide +kernel) rfl), (mg 151 (by decide +kernel) rfl)⟩, Or.inl (mg 923 (by decide +kernel) rfl)⟩
theorem lf_X9_238 : LF RX9 238 4 9 := ⟨by decide, by decide, (RX5, TX5, 10), rfl, rfl, rfl, inG4, Or.inr ⟨"BingoHall", (mn 309 (by decide +kernel) rfl)⟩⟩
theorem sk_71 : SHk 71 = 0 := by decide +kernel
theorem lf_X0_15 : LF RX0 15 0 1 := ⟨by decide, by decide, (RX0, TX0, 5), rfl, rfl, rfl, inG0, Or.inl (mg 441 (by decide +kernel) rfl)⟩
theorem lf_X0_21 : LF RX0 21 0 3 := ⟨by decide, by decide, (RX0, TX0, 5), rfl, rfl, rfl, inG0, Or.inl (mg 443 (by decide +kernel) rfl)⟩
theorem sk_72 : SHk 72 = 10 := by decide +kernel
theorem ln_72 : LN 72 = 15 := by decide +kernel
theorem mv_X0_37 : LVt RX0 37 RX0 M_X0_turnAt 2 := ⟨rfl, ⟨by decide, by decide, by decide +kernel⟩, ⟨(mg 963 (by decide +kernel) rfl), (mg 962 (by decide +kernel) rfl), (mg 59 (by decide +kernel) rfl), (mg 159 (by decide +kernel) rfl)⟩, Or.inl (mg 960 (by decide +kernel) rfl)⟩
theorem lf_X0_9 : LF RX0 9 0 0 := ⟨by decide, by decide, (RX0, TX0, 5), rfl, rfl, rfl, inG0, Or.inl (mg 440 (by decide +kernel) rfl)⟩
theorem lf_X0_18 : LF RX0 18 0 2 := ⟨by decide, by decide, (RX0, TX0, 5), rfl, rfl, rfl, inG0, Or.inl (mg 442 (by decide +kernel) rfl)⟩
theorem mv_X0_58 : LVt RX0 58 RX0 M_X0_rowLack 2 := ⟨rfl, ⟨by decide, by decide, by decide +kernel⟩, ⟨(mg 959 (by decide +kernel) rfl), (mg 958 (by decide +kernel) rfl), (mg 58 (by decide +kernel) rfl), (mg 159 (by decide +kernel) rfl)⟩, Or.inl (mg 956 (by decide +kernel) rfl)⟩
theorem lf_X0_28 : LF RX0 28 3 1 := ⟨by decide, by decide, (RX4, TX4, 12), rfl, rfl, rfl, inG3, Or.inr ⟨"BingoHall", (mn 223 (by decide +kernel) rfl)⟩⟩
theorem lpt_0_0 : LPt 0 0 .int := ⟨(RX0, TX0, 5), rfl, ⟨tyX0, tyX0_ok⟩, nmX0, rfl, by decide +kernel⟩
theorem lf_X0_31 : LF RX0 31 3 3 := ⟨by decide, by decide, (RX4, TX4, 12), rfl, rfl, rfl, inG3, Or.inr ⟨"BingoHall", (mn 232 (by decide +kernel) rfl)⟩⟩
theorem lpt_0_1 : LPt 0 1 .int := ⟨(RX0, TX0, 5), rfl, ⟨tyX0, tyX0_ok⟩, nmX0, rfl, by decide +kernel⟩
theorem lf_X0_32 : LF RX0 32 3 2 := ⟨by decide, by decide, (RX4, TX4, 12), rfl, rfl, rfl, inG3, Or.inr ⟨"BingoHall", (mn 228 (by decide +kernel) rfl)⟩⟩
theorem lpt_0_2 : LPt 0 2 .int := ⟨(RX0, TX0, 5), rfl, ⟨tyX0, tyX0_ok⟩, nmX0, rfl, by decide +kernel⟩
theorem mv_X0_33 : LVt RX0 33 RX4 M_X4_placeOf 3 := ⟨rfl, ⟨by decide, by decide, by decide +kernel⟩, ⟨(mg 756 (by decide +kernel) rfl), (mg 755 (by decide +kernel) rfl), (mg 34 (by decide +kernel) rfl), (mg 153 (by decide +kernel) rfl)⟩, Or.inr ⟨"BingoHall", (mn 951 (by decide +kernel) rfl)⟩⟩
theorem lf_X9_51 : LF RX9 51 8 7 := ⟨by decide, by decide, (RX9, TX9, 14), rfl, rfl, rfl, inG8, Or.inl (mg 464 (by decide +kernel) rfl)⟩
theorem mv_X9_396 : LVt RX9 396 RX0 M_X0_look 4 := ⟨rfl, ⟨by decide, by decide, by decide +kernel⟩, ⟨(mg 950 (by decide +kernel) rfl), (mg 949 (by decide +kernel) rfl), (mg 56 (by decide +kernel) rfl), (mg 159 (by decide +kernel) rfl)⟩, Or.inr ⟨"BingoHall", (mn 947 (by decide +kernel) rfl)⟩⟩
theorem mv_X9_241 : LVt RX9 241 RX9 M_X9_isTime 1 := ⟨rfl, ⟨by decide, by decide, by decide +kernel⟩, ⟨(mg 942 (by decide +kernel) rfl), (mg 941 (by decide +kernel) rfl), (mg 54 (by decide +kernel) rfl), (mg 151 (by decide +kernel) rfl)⟩, Or.inl (mg 939 (by decide +kernel) rfl)⟩
theorem mv_X9_244 : LVt RX9 244 RX9 M_X9_cardOf 2 := ⟨rfl, ⟨by decide, by decide, by decide +kernel⟩, ⟨(mg 946 (by decide +kernel) rfl), (mg 945 (by decide +kernel) rfl), (mg 55 (by decide +kernel) rfl), (mg 151 (by decide +kernel) rfl)⟩, Or.inl (mg 943 (by decide +kernel) rfl)⟩
theorem mv_X9_248 : LVt RX9 248 RX0 M_X0_daubedBy 1 := ⟨rfl, ⟨by decide, by decide, by decide +kernel⟩, ⟨(mg 955 (by decide +kernel) rfl), (mg 954 (by decide +kernel) rfl), (mg 57 (by decide +kernel) rfl), (mg 159 (by decide +kernel) rfl)⟩, Or.inr ⟨"BingoHall", (mn 952 (by decide +kernel) rfl)⟩⟩
theorem mv_X9_251 : LVt RX9 251 RX0 M_X0_fullRowsBy 1 := ⟨rfl, ⟨by decide, by decide, by decide +kernel⟩, ⟨(mg 971 (by decide +kernel) rfl), (mg 970 (by decide +kernel) rfl), (mg 60 (by decide +kernel) rfl), (mg 159 (by decide +kernel) rfl)⟩, Or.inr ⟨"BingoHall", (mn 968 (by decide +kernel) rfl)⟩⟩
theorem mv_X0_46 : LVt RX0 46 RX0 M_X0_canHave 1 := ⟨rfl, ⟨by decide, by decide, by decide +kernel⟩, ⟨(mg 987 (by decide +kernel) rfl), (mg 986 (by decide +kernel) rfl), (mg 63 (by decide +kernel) rfl), (mg 159 (by decide +kernel) rfl)⟩, Or.inl (mg 984 (by decide +kernel) rfl)⟩
theorem lf_X0_25 : LF RX0 25 0 4 := ⟨by decide, by decide, (RX0, TX0, 5), rfl, rfl, rfl, inG0, Or.inl (mg 444 (by decide +kernel) rfl)⟩
theorem sk_73 : SHk 73 = 10 := by decide +kernel
theorem ln_73 : LN 73 = 3 := by decide +kernel
theorem ms_X0_54 : LSt RX0 54 M_X9_sortRising 2 := ⟨⟨by decide, by decide, by decide +kernel⟩, ⟨(mg 748 (by decide +kernel) rfl), (mg 747 (by decide +kernel) rfl), (mg 151 (by decide +kernel) rfl)⟩, Or.inr ⟨"BingoHall", (mn 988 (by decide +kernel) rfl)⟩⟩
theorem mv_X9_254 : LVt RX9 254 RX9 M_X9_isKind 1 := ⟨rfl, ⟨by decide, by decide, by decide +kernel⟩, ⟨(mg 979 (by decide +kernel) rfl), (mg 978 (by decide +kernel) rfl), (mg 61 (by decide +kernel) rfl), (mg 151 (by decide +kernel) rfl)⟩, Or.inl (mg 976 (by decide +kernel) rfl)⟩
theorem mv_X9_257 : LVt RX9 257 RX0 M_X0_lackOf 2 := ⟨rfl, ⟨by decide, by decide, by decide +kernel⟩, ⟨(mg 983 (by decide +kernel) rfl), (mg 982 (by decide +kernel) rfl), (mg 62 (by decide +kernel) rfl), (mg 159 (by decide +kernel) rfl)⟩, Or.inr ⟨"BingoHall", (mn 980 (by decide +kernel) rfl)⟩⟩
theorem lm_X0_41 : LMath RX0 41 Lib.Math.max.name Lib.Math.max.code := ⟨(mg 1001 (by decide +kernel) rfl), (mg 1002 (by decide +kernel) rfl), (mg 162 (by decide +kernel) rfl), (mg 1003 (by decide +kernel) rfl)⟩
theorem mv_X0_50 : LVt RX0 50 RX0 M_X0_rowTurn 1 := ⟨rfl, ⟨by decide, by decide, by decide +kernel⟩, ⟨(mg 1000 (by decide +kernel) rfl), (mg 999 (by decide +kernel) rfl), (mg 65 (by decide +kernel) rfl), (mg 159 (by decide +kernel) rfl)⟩, Or.inl (mg 997 (by decide +kernel) rfl)⟩
theorem mv_X9_260 : LVt RX9 260 RX0 M_X0_turnOf 1 := ⟨rfl, ⟨by decide, by decide, by decide +kernel⟩, ⟨(mg 996 (by decide +kernel) rfl), (mg 995 (by decide +kernel) rfl), (mg 64 (by decide +kernel) rfl), (mg 159 (by decide +kernel) rfl)⟩, Or.inr ⟨"BingoHall", (mn 993 (by decide +kernel) rfl)⟩⟩
theorem lf_X9_400 : LF RX9 400 4 7 := ⟨by decide, by decide, (RX5, TX5, 10), rfl, rfl, rfl, inG4, Or.inr ⟨"BingoHall", (mn 305 (by decide +kernel) rfl)⟩⟩
theorem mv_X9_301 : LVt RX9 301 RX9 M_X9_soldCard 3 := ⟨rfl, ⟨by decide, by decide, by decide +kernel⟩, ⟨(mg 1023 (by decide +kernel) rfl), (mg 1022 (by decide +kernel) rfl), (mg 68 (by decide +kernel) rfl), (mg 151 (by decide +kernel) rfl)⟩, Or.inl (mg 1020 (by decide +kernel) rfl)⟩
theorem mv_X9_298 : LVt RX9 298 RX9 M_X9_firstTurnOf 3 := ⟨rfl, ⟨by decide, by decide, by decide +kernel⟩, ⟨(mg 1019 (by decide +kernel) rfl), (mg 1018 (by decide +kernel) rfl), (mg 67 (by decide +kernel) rfl), (mg 151 (by decide +kernel) rfl)⟩, Or.inl (mg 1016 (by decide +kernel) rfl)⟩
theorem mv_X9_263 : LVt RX9 263 RX9 M_X9_firstTurn 2 := ⟨rfl, ⟨by decide, by decide, by decide +kernel⟩, ⟨(mg 1015 (by decide +kernel) rfl), (mg 1014 (by decide +kernel) rfl), (mg 66 (by decide +kernel) rfl), (mg 151 (by decide +kernel) rfl)⟩, Or.inl (mg 1012 (by decide +kernel) rfl)⟩
theorem mv_X9_267 : LVt RX9 267 RX9 M_X9_winnersAt 3 := ⟨rfl, ⟨by decide, by decide, by decide +kernel⟩, ⟨(mg 1031 (by decide +kernel) rfl), (mg 1030 (by decide +kernel) rfl), (mg 69 (by decide +kernel) rfl), (mg 151 (by decide +kernel) rfl)⟩, Or.inl (mg 1028 (by decide +kernel) rfl)⟩
theorem mv_X9_271 : LVt RX9 271 RX9 M_X9_hasFirst 4 := ⟨rfl, ⟨by decide, by decide, by decide +kernel⟩, ⟨(mg 1035 (by decide +kernel) rfl), (mg 1034 (by decide +kernel) rfl), (mg 70 (by decide +kernel) rfl), (mg 151 (by decide +kernel) rfl)⟩, Or.inl (mg 1032 (by decide +kernel) rfl)⟩
theorem lf_X9_275 : LF RX9 275 4 2 := ⟨by decide, by decide, (RX5, TX5, 10), rfl, rfl, rfl, inG4, Or.inr ⟨"BingoHall", (mn 292 (by decide +kernel) rfl)⟩⟩
theorem ms_X9_278 : LSt RX9 278 M_X9_partOf 2 := ⟨⟨by decide, by decide, by decide +kernel⟩, ⟨(mg 1042 (by decide +kernel) rfl), (mg 1041 (by decide +kernel) rfl), (mg 151 (by decide +kernel) rfl)⟩, Or.inl (mg 1040 (by decide +kernel) rfl)⟩
theorem lf_X9_284 : LF RX9 284 4 4 := ⟨by decide, by decide, (RX5, TX5, 10), rfl, rfl, rfl, inG4, Or.inr ⟨"BingoHall", (mn 298 (by decide +kernel) rfl)⟩⟩
theorem lf_X9_295 : LF RX9 295 4 3 := ⟨by decide, by decide, (RX5, TX5, 10), rfl, rfl, rfl, inG4, Or.inr ⟨"BingoHall", (mn 295 (by decide +kernel) rfl)⟩⟩
theorem mv_X9_281 : LVt RX9 281 RX9 M_X9_jackpotPart 1 := ⟨rfl, ⟨by decide, by decide, by decide +kernel⟩, ⟨(mg 1050 (by decide +kernel) rfl), (mg 1049 (by decide +kernel) rfl), (mg 71 (by decide +kernel) rfl), (mg 151 (by decide +kernel) rfl)⟩, Or.inl (mg 1047 (by decide +kernel) rfl)⟩
theorem lm_X9_287 : LMath RX9 287 Lib.Math.max.name Lib.Math.max.code := ⟨(mg 1051 (by decide +kernel) rfl), (mg 1002 (by decide +kernel) rfl), (mg 162 (by decide +kernel) rfl), (mg 1003 (by decide +kernel) rfl)⟩
theorem mv_X9_292 : LVt RX9 292 RX9 M_X9_winnerPart 2 := ⟨rfl, ⟨by decide, by decide, by decide +kernel⟩, ⟨(mg 1059 (by decide +kernel) rfl), (mg 1058 (by decide +kernel) rfl), (mg 72 (by decide +kernel) rfl), (mg 151 (by decide +kernel) rfl)⟩, Or.inl (mg 1056 (by decide +kernel) rfl)⟩
theorem lf_X9_64 : LF RX9 64 8 10 := ⟨by decide, by decide, (RX9, TX9, 14), rfl, rfl, rfl, inG8, Or.inl (mg 467 (by decide +kernel) rfl)⟩
theorem sk_76 : SHk 76 = 14 := by decide +kernel
theorem ln_76 : LN 76 = 40 := by decide +kernel
theorem cb_40 : (Int8.ofInt (40)).toInt32 = (40 : Int32) := by decide
theorem lm_X9_305 : LMath RX9 305 Lib.Math.min.name Lib.Math.min.code := ⟨(mg 1064 (by decide +kernel) rfl), (mg 587 (by decide +kernel) rfl), (mg 162 (by decide +kernel) rfl), (mg 588 (by decide +kernel) rfl)⟩
theorem mv_X9_308 : LVt RX9 308 RX9 M_X9_isUnlikeAhead 1 := ⟨rfl, ⟨by decide, by decide, by decide +kernel⟩, ⟨(mg 1068 (by decide +kernel) rfl), (mg 1067 (by decide +kernel) rfl), (mg 73 (by decide +kernel) rfl), (mg 151 (by decide +kernel) rfl)⟩, Or.inl (mg 1065 (by decide +kernel) rfl)⟩
theorem lf_X9_67 : LF RX9 67 8 11 := ⟨by decide, by decide, (RX9, TX9, 14), rfl, rfl, rfl, inG8, Or.inl (mg 468 (by decide +kernel) rfl)⟩
theorem sk_117 : SHk 117 = 10 := by decide +kernel
theorem ln_117 : LN 117 = 40 := by decide +kernel
theorem ll_X9_318 : Cond.constantLong RX9 318 (10) ∈ lw_good := (mg 1077 (by decide +kernel) rfl)
theorem mv_X9_320 : LVt RX9 320 RX0 M_X0_turnAt 2 := ⟨rfl, ⟨by decide, by decide, by decide +kernel⟩, ⟨(mg 963 (by decide +kernel) rfl), (mg 962 (by decide +kernel) rfl), (mg 59 (by decide +kernel) rfl), (mg 159 (by decide +kernel) rfl)⟩, Or.inr ⟨"BingoHall", (mn 1082 (by decide +kernel) rfl)⟩⟩
theorem mv_X9_311 : LVt RX9 311 RX9 M_X9_isShape 1 := ⟨rfl, ⟨by decide, by decide, by decide +kernel⟩, ⟨(mg 1076 (by decide +kernel) rfl), (mg 1075 (by decide +kernel) rfl), (mg 74 (by decide +kernel) rfl), (mg 151 (by decide +kernel) rfl)⟩, Or.inl (mg 1073 (by decide +kernel) rfl)⟩
theorem mv_X9_314 : LVt RX9 314 RX9 M_X9_shapeTurn 2 := ⟨rfl, ⟨by decide, by decide, by decide +kernel⟩, ⟨(mg 1081 (by decide +kernel) rfl), (mg 1080 (by decide +kernel) rfl), (mg 75 (by decide +kernel) rfl), (mg 151 (by decide +kernel) rfl)⟩, Or.inl (mg 1078 (by decide +kernel) rfl)⟩
theorem mv_X9_323 : LVt RX9 323 RX0 M_X0_endsTurn 1 := ⟨rfl, ⟨by decide, by decide, by decide +kernel⟩, ⟨(mg 1094 (by decide +kernel) rfl), (mg 1093 (by decide +kernel) rfl), (mg 76 (by decide +kernel) rfl), (mg 159 (by decide +kernel) rfl)⟩, Or.inr ⟨"BingoHall", (mn 1091 (by decide +kernel) rfl)⟩⟩
theorem ms_X9_326 : LSt RX9 326 M_X9_daubTime 4 := ⟨⟨by decide, by decide, by decide +kernel⟩, ⟨(mg 1117 (by decide +kernel) rfl), (mg 1116 (by decide +kernel) rfl), (mg 151 (by decide +kernel) rfl)⟩, Or.inl (mg 1115 (by decide +kernel) rfl)⟩
theorem mv_X9_330 : LVt RX9 330 RX9 M_X9_aheadOf 3 := ⟨rfl, ⟨by decide, by decide, by decide +kernel⟩, ⟨(mg 1125 (by decide +kernel) rfl), (mg 1124 (by decide +kernel) rfl), (mg 77 (by decide +kernel) rfl), (mg 151 (by decide +kernel) rfl)⟩, Or.inl (mg 1122 (by decide +kernel) rfl)⟩
theorem ll_X9_341 : Cond.constantLong RX9 341 (9999) ∈ lw_good := (mg 1134 (by decide +kernel) rfl)
theorem mv_X9_333 : LVt RX9 333 RX9 M_X9_paidInAll 1 := ⟨rfl, ⟨by decide, by decide, by decide +kernel⟩, ⟨(mg 1133 (by decide +kernel) rfl), (mg 1132 (by decide +kernel) rfl), (mg 78 (by decide +kernel) rfl), (mg 151 (by decide +kernel) rfl)⟩, Or.inl (mg 1130 (by decide +kernel) rfl)⟩
theorem mv_X9_337 : LVt RX9 337 RX9 M_X9_wonInAll 0 := ⟨rfl, ⟨by decide, by decide, by decide +kernel⟩, ⟨(mg 1138 (by decide +kernel) rfl), (mg 1137 (by decide +kernel) rfl), (mg 79 (by decide +kernel) rfl), (mg 151 (by decide +kernel) rfl)⟩, Or.inl (mg 1135 (by decide +kernel) rfl)⟩
theorem ms_X1_7 : LSt RX1 7 M_X1_choose 2 := ⟨⟨by decide, by decide, by decide +kernel⟩, ⟨(mg 1152 (by decide +kernel) rfl), (mg 1151 (by decide +kernel) rfl), (mg 169 (by decide +kernel) rfl)⟩, Or.inl (mg 1150 (by decide +kernel) rfl)⟩
theorem cs_1000 : (Int16.ofInt (1000)).toInt32 = (1000 : Int32) := by decide
theorem ms_X1_13 : LSt RX1 13 M_X1_commonDivisor 2 := ⟨⟨by decide, by decide, by decide +kernel⟩, ⟨(mg 1159 (by decide +kernel) rfl), (mg 1158 (by decide +kernel) rfl), (mg 169 (by decide +kernel) rfl)⟩, Or.inl (mg 1157 (by decide +kernel) rfl)⟩
theorem ms_X9_343 : LSt RX9 343 M_X9_isPartOfFraction 1 := ⟨⟨by decide, by decide, by decide +kernel⟩, ⟨(mg 1145 (by decide +kernel) rfl), (mg 1144 (by decide +kernel) rfl), (mg 151 (by decide +kernel) rfl)⟩, Or.inl (mg 1143 (by decide +kernel) rfl)⟩
theorem ll_X9_346 : Cond.constantLong RX9 346 (-2) ∈ lw_good := (mg 1146 (by decide +kernel) rfl)
theorem lf_X9_348 : LF RX9 348 3 2 := ⟨by decide, by decide, (RX4, TX4, 12), rfl, rfl, rfl, inG3, Or.inr ⟨"BingoHall", (mn 230 (by decide +kernel) rfl)⟩⟩
theorem ms_X9_351 : LSt RX9 351 M_X1_drawsWith 5 := ⟨⟨by decide, by decide, by decide +kernel⟩, ⟨(mg 1149 (by decide +kernel) rfl), (mg 1148 (by decide +kernel) rfl), (mg 169 (by decide +kernel) rfl)⟩, Or.inr ⟨"BingoHall", (mn 1147 (by decide +kernel) rfl)⟩⟩
theorem ms_X9_357 : LSt RX9 357 M_X1_choose 2 := ⟨⟨by decide, by decide, by decide +kernel⟩, ⟨(mg 1152 (by decide +kernel) rfl), (mg 1151 (by decide +kernel) rfl), (mg 169 (by decide +kernel) rfl)⟩, Or.inr ⟨"BingoHall", (mn 1153 (by decide +kernel) rfl)⟩⟩
theorem ms_X9_360 : LSt RX9 360 M_X1_told 3 := ⟨⟨by decide, by decide, by decide +kernel⟩, ⟨(mg 1156 (by decide +kernel) rfl), (mg 1155 (by decide +kernel) rfl), (mg 169 (by decide +kernel) rfl)⟩, Or.inr ⟨"BingoHall", (mn 1154 (by decide +kernel) rfl)⟩⟩
theorem mv_X9_364 : LVt RX9 364 RX9 M_X9_stripDraws 2 := ⟨rfl, ⟨by decide, by decide, by decide +kernel⟩, ⟨(mg 1167 (by decide +kernel) rfl), (mg 1166 (by decide +kernel) rfl), (mg 80 (by decide +kernel) rfl), (mg 151 (by decide +kernel) rfl)⟩, Or.inl (mg 1164 (by decide +kernel) rfl)⟩
theorem cb_20 : (Int8.ofInt (20)).toInt32 = (20 : Int32) := by decide
theorem lf_X9_70 : LF RX9 70 8 12 := ⟨by decide, by decide, (RX9, TX9, 14), rfl, rfl, rfl, inG8, Or.inl (mg 469 (by decide +kernel) rfl)⟩
theorem sk_118 : SHk 118 = 10 := by decide +kernel
theorem ln_118 : LN 118 = 45 := by decide +kernel
theorem lf_X9_73 : LF RX9 73 8 13 := ⟨by decide, by decide, (RX9, TX9, 14), rfl, rfl, rfl, inG8, Or.inl (mg 470 (by decide +kernel) rfl)⟩
theorem sk_119 : SHk 119 = 10 := by decide +kernel
theorem ln_119 : LN 119 = 46 := by decide +kernel
theorem ms_X9_367 : LSt RX9 367 M_X9_noteTurns 3 := ⟨⟨by decide, by decide, by decide +kernel⟩, ⟨(mg 787 (by decide +kernel) rfl), (mg 786 (by decide +kernel) rfl), (mg 151 (by decide +kernel) rfl)⟩, Or.inl (mg 1184 (by decide +kernel) rfl)⟩
theorem mv_X9_370 : LVt RX9 370 RX8 M_X8_inUse 0 := ⟨rfl, ⟨by decide, by decide, by decide +kernel⟩, ⟨(mg 1196 (by decide +kernel) rfl), (mg 1195 (by decide +kernel) rfl), (mg 81 (by decide +kernel) rfl), (mg 158 (by decide +kernel) rfl)⟩, Or.inr ⟨"BingoHall", (mn 1193 (by decide +kernel) rfl)⟩⟩
theorem la_X4_56 : LCp RX4 56 := ⟨(mg 1209 (by decide +kernel) rfl), (mg 770 (by decide +kernel) rfl), (mg 769 (by decide +kernel) rfl), (mg 167 (by decide +kernel) rfl)⟩
theorem mv_X5_58 : LVt RX5 58 RX4 M_X4_copyFrom 1 := ⟨rfl, ⟨by decide, by decide, by decide +kernel⟩, ⟨(mg 1208 (by decide +kernel) rfl), (mg 1207 (by decide +kernel) rfl), (mg 83 (by decide +kernel) rfl), (mg 153 (by decide +kernel) rfl)⟩, Or.inr ⟨"BingoHall", (mn 1205 (by decide +kernel) rfl)⟩⟩
theorem cb_46 : (Int8.ofInt (46)).toInt32 = (46 : Int32) := by decide
theorem lf_X9_19 : LF RX9 19 8 2 := ⟨by decide, by decide, (RX9, TX9, 14), rfl, rfl, rfl, inG8, Or.inl (mg 459 (by decide +kernel) rfl)⟩
theorem sk_45 : SHk 45 = 16 := by decide +kernel
theorem ln_45 : LN 45 = 3 := by decide +kernel
theorem mv_X9_374 : LVt RX9 374 RX5 M_X5_copyFrom 1 := ⟨rfl, ⟨by decide, by decide, by decide +kernel⟩, ⟨(mg 1204 (by decide +kernel) rfl), (mg 1203 (by decide +kernel) rfl), (mg 82 (by decide +kernel) rfl), (mg 152 (by decide +kernel) rfl)⟩, Or.inr ⟨"BingoHall", (mn 1201 (by decide +kernel) rfl)⟩⟩
theorem lf_X9_23 : LF RX9 23 8 3 := ⟨by decide, by decide, (RX9, TX9, 14), rfl, rfl, rfl, inG8, Or.inl (mg 460 (by decide +kernel) rfl)⟩
theorem sk_46 : SHk 46 = 13 := by decide +kernel
theorem ln_46 : LN 46 = 3 := by decide +kernel
theorem cb_60 : (Int8.ofInt (60)).toInt32 = (60 : Int32) := by decide
theorem ms_X8_42 : LSt RX8 42 M_J7_fill_d0a16 2 := ⟨⟨by decide, by decide, by decide +kernel⟩, ⟨(mg 1224 (by decide +kernel) rfl), (mg 1223 (by decide +kernel) rfl), (mg 161 (by decide +kernel) rfl)⟩, Or.inl (mg 1222 (by decide +kernel) rfl)⟩
theorem lf_X8_20 : LF RX8 20 7 2 := ⟨by decide, by decide, (RX8, TX8, 4), rfl, rfl, rfl, inG7, Or.inl (mg 422 (by decide +kernel) rfl)⟩
theorem sk_69 : SHk 69 = 10 := by decide +kernel
theorem ln_69 : LN 69 = 4 := by decide +kernel
theorem mv_X9_377 : LVt RX9 377 RX8 M_X8_begin 3 := ⟨rfl, ⟨by decide, by decide, by decide +kernel⟩, ⟨(mg 1221 (by decide +kernel) rfl), (mg 1220 (by decide +kernel) rfl), (mg 84 (by decide +kernel) rfl), (mg 158 (by decide +kernel) rfl)⟩, Or.inr ⟨"BingoHall", (mn 1218 (by decide +kernel) rfl)⟩⟩
theorem ms_X8_48 : LSt RX8 48 M_X8_cut 2 := ⟨⟨by decide, by decide, by decide +kernel⟩, ⟨(mg 1235 (by decide +kernel) rfl), (mg 1234 (by decide +kernel) rfl), (mg 158 (by decide +kernel) rfl)⟩, Or.inl (mg 1233 (by decide +kernel) rfl)⟩
theorem mv_X9_380 : LVt RX9 380 RX8 M_X8_put 3 := ⟨rfl, ⟨by decide, by decide, by decide +kernel⟩, ⟨(mg 1232 (by decide +kernel) rfl), (mg 1231 (by decide +kernel) rfl), (mg 85 (by decide +kernel) rfl), (mg 158 (by decide +kernel) rfl)⟩, Or.inr ⟨"BingoHall", (mn 1229 (by decide +kernel) rfl)⟩⟩
theorem la_X8_52 : LCp RX8 52 := ⟨(mg 1249 (by decide +kernel) rfl), (mg 770 (by decide +kernel) rfl), (mg 769 (by decide +kernel) rfl), (mg 167 (by decide +kernel) rfl)⟩
theorem mv_X9_384 : LVt RX9 384 RX8 M_X8_areOfOneWidth 2 := ⟨rfl, ⟨by decide, by decide, by decide +kernel⟩, ⟨(mg 1243 (by decide +kernel) rfl), (mg 1242 (by decide +kernel) rfl), (mg 86 (by decide +kernel) rfl), (mg 158 (by decide +kernel) rfl)⟩, Or.inr ⟨"BingoHall", (mn 1240 (by decide +kernel) rfl)⟩⟩
theorem cbm_8 : (Int8.ofInt (-8)).toInt32 = (-8 : Int32) := by decide
theorem mv_X9_388 : LVt RX9 388 RX8 M_X8_holds 3 := ⟨rfl, ⟨by decide, by decide, by decide +kernel⟩, ⟨(mg 849 (by decide +kernel) rfl), (mg 848 (by decide +kernel) rfl), (mg 48 (by decide +kernel) rfl), (mg 158 (by decide +kernel) rfl)⟩, Or.inr ⟨"BingoHall", (mn 1244 (by decide +kernel) rfl)⟩⟩
theorem mv_X9_392 : LVt RX9 392 RX8 M_X8_move 5 := ⟨rfl, ⟨by decide, by decide, by decide +kernel⟩, ⟨(mg 1248 (by decide +kernel) rfl), (mg 1247 (by decide +kernel) rfl), (mg 87 (by decide +kernel) rfl), (mg 158 (by decide +kernel) rfl)⟩, Or.inr ⟨"BingoHall", (mn 1245 (by decide +kernel) rfl)⟩⟩
theorem ll_X10_98 : Cond.constantLong RX10 98 (3) ∈ lw_good := (mg 1399 (by decide +kernel) rfl)
theorem ms_X10_100 : LSt RX10 100 M_X10_in 3 := ⟨⟨by decide, by decide, by decide +kernel⟩, ⟨(mg 1402 (by decide +kernel) rfl), (mg 1401 (by decide +kernel) rfl), (mg 160 (by decide +kernel) rfl)⟩, Or.inl (mg 1400 (by decide +kernel) rfl)⟩
theorem sk_186 : SHk 186 = 9 := by decide +kernel
theorem lf_X10_95 : LF RX10 95 9 0 := ⟨by decide, by decide, (RX10, TX10, 45), rfl, rfl, rfl, inG9, Or.inl (mg 1256 (by decide +kernel) rfl)⟩
theorem lpt_9_0 : LPt 9 0 .int := ⟨(RX10, TX10, 45), rfl, ⟨tyX10, tyX10_ok⟩, nmX10, rfl, by decide +kernel⟩
theorem ms_X10_104 : LSt RX10 104 M_X10_isSlot 1 := ⟨⟨by decide, by decide, by decide +kernel⟩, ⟨(mg 1398 (by decide +kernel) rfl), (mg 1397 (by decide +kernel) rfl), (mg 160 (by decide +kernel) rfl)⟩, Or.inl (mg 1396 (by decide +kernel) rfl)⟩
theorem lf_X10_7 : LF RX10 7 9 1 := ⟨by decide, by decide, (RX10, TX10, 45), rfl, rfl, rfl, inG9, Or.inl (mg 1257 (by decide +kernel) rfl)⟩
theorem sk_187 : SHk 187 = 10 := by decide +kernel
theorem ln_187 : LN 187 = 4 := by decide +kernel
theorem lf_X10_13 : LF RX10 13 9 2 := ⟨by decide, by decide, (RX10, TX10, 45), rfl, rfl, rfl, inG9, Or.inl (mg 1258 (by decide +kernel) rfl)⟩
theorem sk_188 : SHk 188 = 10 := by decide +kernel
theorem ln_188 : LN 188 = 4 := by decide +kernel
theorem lf_X10_16 : LF RX10 16 9 3 := ⟨by decide, by decide, (RX10, TX10, 45), rfl, rfl, rfl, inG9, Or.inl (mg 1259 (by decide +kernel) rfl)⟩
theorem sk_189 : SHk 189 = 12 := by decide +kernel
theorem ln_189 : LN 189 = 240 := by decide +kernel
theorem ms_X10_108 : LSt RX10 108 M_X10_cut 2 := ⟨⟨by decide, by decide, by decide +kernel⟩, ⟨(mg 1409 (by decide +kernel) rfl), (mg 1408 (by decide +kernel) rfl), (mg 160 (by decide +kernel) rfl)⟩, Or.inl (mg 1407 (by decide +kernel) rfl)⟩
theorem lf_X10_20 : LF RX10 20 9 4 := ⟨by decide, by decide, (RX10, TX10, 45), rfl, rfl, rfl, inG9, Or.inl (mg 1260 (by decide +kernel) rfl)⟩
theorem sk_190 : SHk 190 = 12 := by decide +kernel
theorem ln_190 : LN 190 = 60 := by decide +kernel
theorem lf_X10_23 : LF RX10 23 9 5 := ⟨by decide, by decide, (RX10, TX10, 45), rfl, rfl, rfl, inG9, Or.inl (mg 1261 (by decide +kernel) rfl)⟩
theorem sk_191 : SHk 191 = 11 := by decide +kernel
theorem ln_191 : LN 191 = 800 := by decide +kernel
theorem lf_X10_112 : LF RX10 112 9 6 := ⟨by decide, by decide, (RX10, TX10, 45), rfl, rfl, rfl, inG9, Or.inl (mg 1262 (by decide +kernel) rfl)⟩
theorem lpt_9_6 : LPt 9 6 .int := ⟨(RX10, TX10, 45), rfl, ⟨tyX10, tyX10_ok⟩, nmX10, rfl, by decide +kernel⟩
theorem mv_X10_115 : LVt RX10 115 RX10 M_X10_four 1 := ⟨rfl, ⟨by decide, by decide, by decide +kernel⟩, ⟨(mg 1421 (by decide +kernel) rfl), (mg 1420 (by decide +kernel) rfl), (mg 88 (by decide +kernel) rfl), (mg 160 (by decide +kernel) rfl)⟩, Or.inl (mg 1418 (by decide +kernel) rfl)⟩
theorem lf_X10_119 : LF RX10 119 9 7 := ⟨by decide, by decide, (RX10, TX10, 45), rfl, rfl, rfl, inG9, Or.inl (mg 1263 (by decide +kernel) rfl)⟩
theorem mv_X10_122 : LVt RX10 122 RX10 M_X10_isByte 3 := ⟨rfl, ⟨by decide, by decide, by decide +kernel⟩, ⟨(mg 1449 (by decide +kernel) rfl), (mg 1448 (by decide +kernel) rfl), (mg 92 (by decide +kernel) rfl), (mg 160 (by decide +kernel) rfl)⟩, Or.inl (mg 1446 (by decide +kernel) rfl)⟩
theorem lpt_9_7 : LPt 9 7 .int := ⟨(RX10, TX10, 45), rfl, ⟨tyX10, tyX10_ok⟩, nmX10, rfl, by decide +kernel⟩
theorem lf_X10_126 : LF RX10 126 9 9 := ⟨by decide, by decide, (RX10, TX10, 45), rfl, rfl, rfl, inG9, Or.inl (mg 1265 (by decide +kernel) rfl)⟩
theorem lpt_9_9 : LPt 9 9 .int := ⟨(RX10, TX10, 45), rfl, ⟨tyX10, tyX10_ok⟩, nmX10, rfl, by decide +kernel⟩
theorem lf_X10_129 : LF RX10 129 9 10 := ⟨by decide, by decide, (RX10, TX10, 45), rfl, rfl, rfl, inG9, Or.inl (mg 1266 (by decide +kernel) rfl)⟩
theorem lpt_9_10 : LPt 9 10 .int := ⟨(RX10, TX10, 45), rfl, ⟨tyX10, tyX10_ok⟩, nmX10, rfl, by decide +kernel⟩
theorem lf_X10_132 : LF RX10 132 9 11 := ⟨by decide, by decide, (RX10, TX10, 45), rfl, rfl, rfl, inG9, Or.inl (mg 1267 (by decide +kernel) rfl)⟩
theorem lpt_9_11 : LPt 9 11 .long := ⟨(RX10, TX10, 45), rfl, ⟨tyX10, tyX10_ok⟩, nmX10, rfl, by decide +kernel⟩
theorem lf_X10_136 : LF RX10 136 9 8 := ⟨by decide, by decide, (RX10, TX10, 45), rfl, rfl, rfl, inG9, Or.inl (mg 1264 (by decide +kernel) rfl)⟩
theorem lpt_9_8 : LPt 9 8 .int := ⟨(RX10, TX10, 45), rfl, ⟨tyX10, tyX10_ok⟩, nmX10, rfl, by decide +kernel⟩
theorem cb_11 : (Int8.ofInt (11)).toInt32 = (11 : Int32) := by decide
theorem ll_X10_139 : Cond.constantLong RX10 139 (-1) ∈ lw_good := (mg 1450 (by decide +kernel) rfl)
theorem ll_X10_141 : Cond.constantLong RX10 141 (27) ∈ lw_good := (mg 1451 (by decide +kernel) rfl)
theorem ll_X10_143 : Cond.constantLong RX10 143 (96) ∈ lw_good := (mg 1452 (by decide +kernel) rfl)
theorem lc_X10_145 : Cond.constant RX10 145 (100000) ∈ lw_good := (mg 1453 (by decide +kernel) rfl)
theorem lc_X10_146 : Cond.constant RX10 146 (1000000) ∈ lw_good := (mg 1454 (by decide +kernel) rfl)
theorem lf_X10_147 : LF RX10 147 9 12 := ⟨by decide, by decide, (RX10, TX10, 45), rfl, rfl, rfl, inG9, Or.inl (mg 1268 (by decide +kernel) rfl)⟩
theorem lpt_9_12 : LPt 9 12 .int := ⟨(RX10, TX10, 45), rfl, ⟨tyX10, tyX10_ok⟩, nmX10, rfl, by decide +kernel⟩
theorem lf_X10_150 : LF RX10 150 9 13 := ⟨by decide, by decide, (RX10, TX10, 45), rfl, rfl, rfl, inG9, Or.inl (mg 1269 (by decide +kernel) rfl)⟩
theorem lpt_9_13 : LPt 9 13 .int := ⟨(RX10, TX10, 45), rfl, ⟨tyX10, tyX10_ok⟩, nmX10, rfl, by decide +kernel⟩
theorem mv_X10_153 : LVt RX10 153 RX10 M_X10_is 1 := ⟨rfl, ⟨by decide, by decide, by decide +kernel⟩, ⟨(mg 1475 (by decide +kernel) rfl), (mg 1474 (by decide +kernel) rfl), (mg 97 (by decide +kernel) rfl), (mg 160 (by decide +kernel) rfl)⟩, Or.inl (mg 1472 (by decide +kernel) rfl)⟩
theorem mv_X10_157 : LVt RX10 157 RX10 M_X10_next 0 := ⟨rfl, ⟨by decide, by decide, by decide +kernel⟩, ⟨(mg 1445 (by decide +kernel) rfl), (mg 1444 (by decide +kernel) rfl), (mg 91 (by decide +kernel) rfl), (mg 160 (by decide +kernel) rfl)⟩, Or.inl (mg 1442 (by decide +kernel) rfl)⟩
theorem mv_X10_160 : LVt RX10 160 RX10 M_X10_takes 1 := ⟨rfl, ⟨by decide, by decide, by decide +kernel⟩, ⟨(mg 1471 (by decide +kernel) rfl), (mg 1470 (by decide +kernel) rfl), (mg 96 (by decide +kernel) rfl), (mg 160 (by decide +kernel) rfl)⟩, Or.inl (mg 1468 (by decide +kernel) rfl)⟩
theorem mv_X10_163 : LVt RX10 163 RX10 M_X10_fails 1 := ⟨rfl, ⟨by decide, by decide, by decide +kernel⟩, ⟨(mg 1479 (by decide +kernel) rfl), (mg 1478 (by decide +kernel) rfl), (mg 98 (by decide +kernel) rfl), (mg 160 (by decide +kernel) rfl)⟩, Or.inl (mg 1476 (by decide +kernel) rfl)⟩
theorem mv_X10_166 : LVt RX10 166 RX10 M_X10_asks 1 := ⟨rfl, ⟨by decide, by decide, by decide +kernel⟩, ⟨(mg 1467 (by decide +kernel) rfl), (mg 1466 (by decide +kernel) rfl), (mg 95 (by decide +kernel) rfl), (mg 160 (by decide +kernel) rfl)⟩, Or.inl (mg 1464 (by decide +kernel) rfl)⟩
theorem mv_X10_170 : LVt RX10 170 RX10 M_X10_number 2 := ⟨rfl, ⟨by decide, by decide, by decide +kernel⟩, ⟨(mg 1488 (by decide +kernel) rfl), (mg 1487 (by decide +kernel) rfl), (mg 100 (by decide +kernel) rfl), (mg 160 (by decide +kernel) rfl)⟩, Or.inl (mg 1485 (by decide +kernel) rfl)⟩
theorem lf_X10_174 : LF RX10 174 9 14 := ⟨by decide, by decide, (RX10, TX10, 45), rfl, rfl, rfl, inG9, Or.inl (mg 1270 (by decide +kernel) rfl)⟩
theorem lpt_9_14 : LPt 9 14 .int := ⟨(RX10, TX10, 45), rfl, ⟨tyX10, tyX10_ok⟩, nmX10, rfl, by decide +kernel⟩
theorem lf_X10_27 : LF RX10 27 9 15 := ⟨by decide, by decide, (RX10, TX10, 45), rfl, rfl, rfl, inG9, Or.inl (mg 1271 (by decide +kernel) rfl)⟩
theorem lpt_9_15 : LPt 9 15 .int := ⟨(RX10, TX10, 45), rfl, ⟨tyX10, tyX10_ok⟩, nmX10, rfl, by decide +kernel⟩
theorem lf_X10_34 : LF RX10 34 9 17 := ⟨by decide, by decide, (RX10, TX10, 45), rfl, rfl, rfl, inG9, Or.inl (mg 1273 (by decide +kernel) rfl)⟩
theorem sk_193 : SHk 193 = 10 := by decide +kernel
theorem ln_193 : LN 193 = 48 := by decide +kernel
theorem mv_X10_177 : LVt RX10 177 RX10 M_X10_of 2 := ⟨rfl, ⟨by decide, by decide, by decide +kernel⟩, ⟨(mg 1495 (by decide +kernel) rfl), (mg 1494 (by decide +kernel) rfl), (mg 101 (by decide +kernel) rfl), (mg 160 (by decide +kernel) rfl)⟩, Or.inl (mg 1492 (by decide +kernel) rfl)⟩
theorem lf_X10_59 : LF RX10 59 9 25 := ⟨by decide, by decide, (RX10, TX10, 45), rfl, rfl, rfl, inG9, Or.inl (mg 1281 (by decide +kernel) rfl)⟩
theorem sk_201 : SHk 201 = 10 := by decide +kernel
theorem ln_201 : LN 201 = 5 := by decide +kernel
theorem lf_X10_210 : LF RX10 210 9 26 := ⟨by decide, by decide, (RX10, TX10, 45), rfl, rfl, rfl, inG9, Or.inl (mg 1282 (by decide +kernel) rfl)⟩
theorem lf_X10_263 : LF RX10 263 9 27 := ⟨by decide, by decide, (RX10, TX10, 45), rfl, rfl, rfl, inG9, Or.inl (mg 1283 (by decide +kernel) rfl)⟩
theorem lf_X10_56 : LF RX10 56 9 24 := ⟨by decide, by decide, (RX10, TX10, 45), rfl, rfl, rfl, inG9, Or.inl (mg 1280 (by decide +kernel) rfl)⟩
theorem sk_200 : SHk 200 = 10 := by decide +kernel
theorem ln_200 : LN 200 = 15 := by decide +kernel
theorem lf_X10_53 : LF RX10 53 9 23 := ⟨by decide, by decide, (RX10, TX10, 45), rfl, rfl, rfl, inG9, Or.inl (mg 1279 (by decide +kernel) rfl)⟩
theorem sk_199 : SHk 199 = 10 := by decide +kernel
theorem ln_199 : LN 199 = 15 := by decide +kernel
theorem lpt_9_26 : LPt 9 26 .int := ⟨(RX10, TX10, 45), rfl, ⟨tyX10, tyX10_ok⟩, nmX10, rfl, by decide +kernel⟩
theorem mv_X10_266 : LVt RX10 266 RX10 M_X10_plans 4 := ⟨rfl, ⟨by decide, by decide, by decide +kernel⟩, ⟨(mg 1512 (by decide +kernel) rfl), (mg 1511 (by decide +kernel) rfl), (mg 105 (by decide +kernel) rfl), (mg 160 (by decide +kernel) rfl)⟩, Or.inl (mg 1509 (by decide +kernel) rfl)⟩
theorem lpt_9_27 : LPt 9 27 .int := ⟨(RX10, TX10, 45), rfl, ⟨tyX10, tyX10_ok⟩, nmX10, rfl, by decide +kernel⟩
theorem lf_X10_37 : LF RX10 37 9 18 := ⟨by decide, by decide, (RX10, TX10, 45), rfl, rfl, rfl, inG9, Or.inl (mg 1274 (by decide +kernel) rfl)⟩
theorem sk_194 : SHk 194 = 10 := by decide +kernel
theorem ln_194 : LN 194 = 30 := by decide +kernel
theorem mv_X10_202 : LVt RX10 202 RX10 M_X10_numbersOf 1 := ⟨rfl, ⟨by decide, by decide, by decide +kernel⟩, ⟨(mg 1504 (by decide +kernel) rfl), (mg 1503 (by decide +kernel) rfl), (mg 103 (by decide +kernel) rfl), (mg 160 (by decide +kernel) rfl)⟩, Or.inl (mg 1501 (by decide +kernel) rfl)⟩
theorem mv_X10_206 : LVt RX10 206 RX10 M_X10_planOf 2 := ⟨rfl, ⟨by decide, by decide, by decide +kernel⟩, ⟨(mg 1508 (by decide +kernel) rfl), (mg 1507 (by decide +kernel) rfl), (mg 104 (by decide +kernel) rfl), (mg 160 (by decide +kernel) rfl)⟩, Or.inl (mg 1505 (by decide +kernel) rfl)⟩
theorem ll_X10_180 : Cond.constantLong RX10 180 (158529) ∈ lw_good := (mg 1463 (by decide +kernel) rfl)
theorem ll_X10_182 : Cond.constantLong RX10 182 (1627255) ∈ lw_good := (mg 1480 (by decide +kernel) rfl)
theorem mv_X10_184 : LVt RX10 184 RX10 M_X10_number_ 3 := ⟨rfl, ⟨by decide, by decide, by decide +kernel⟩, ⟨(mg 1484 (by decide +kernel) rfl), (mg 1483 (by decide +kernel) rfl), (mg 99 (by decide +kernel) rfl), (mg 160 (by decide +kernel) rfl)⟩, Or.inl (mg 1481 (by decide +kernel) rfl)⟩
theorem cb_33 : (Int8.ofInt (33)).toInt32 = (33 : Int32) := by decide
theorem ll_X10_187 : Cond.constantLong RX10 187 (365869) ∈ lw_good := (mg 1489 (by decide +kernel) rfl)
theorem cb_34 : (Int8.ofInt (34)).toInt32 = (34 : Int32) := by decide
theorem ll_X10_189 : Cond.constantLong RX10 189 (99233) ∈ lw_good := (mg 1490 (by decide +kernel) rfl)
theorem ll_X10_191 : Cond.constantLong RX10 191 (1384295581) ∈ lw_good := (mg 1491 (by decide +kernel) rfl)
theorem mv_X10_193 : LVt RX10 193 RX10 M_X10_isGood 0 := ⟨rfl, ⟨by decide, by decide, by decide +kernel⟩, ⟨(mg 1458 (by decide +kernel) rfl), (mg 1457 (by decide +kernel) rfl), (mg 93 (by decide +kernel) rfl), (mg 160 (by decide +kernel) rfl)⟩, Or.inl (mg 1455 (by decide +kernel) rfl)⟩
theorem ll_X10_197 : Cond.constantLong RX10 197 (15) ∈ lw_good := (mg 1496 (by decide +kernel) rfl)
theorem cb_35 : (Int8.ofInt (35)).toInt32 = (35 : Int32) := by decide
theorem mv_X10_199 : LVt RX10 199 RX10 M_X10_isAsSaid 0 := ⟨rfl, ⟨by decide, by decide, by decide +kernel⟩, ⟨(mg 1500 (by decide +kernel) rfl), (mg 1499 (by decide +kernel) rfl), (mg 102 (by decide +kernel) rfl), (mg 160 (by decide +kernel) rfl)⟩, Or.inl (mg 1497 (by decide +kernel) rfl)⟩
theorem ll_X10_282 : Cond.constantLong RX10 282 (1103515245) ∈ lw_good := (mg 1534 (by decide +kernel) rfl)
theorem lf_X10_284 : LF RX10 284 9 33 := ⟨by decide, by decide, (RX10, TX10, 45), rfl, rfl, rfl, inG9, Or.inl (mg 1289 (by decide +kernel) rfl)⟩
theorem ll_X10_287 : Cond.constantLong RX10 287 (12345) ∈ lw_good := (mg 1535 (by decide +kernel) rfl)
theorem ll_X10_289 : Cond.constantLong RX10 289 (2147483648) ∈ lw_good := (mg 1536 (by decide +kernel) rfl)
theorem lpt_9_33 : LPt 9 33 .long := ⟨(RX10, TX10, 45), rfl, ⟨tyX10, tyX10_ok⟩, nmX10, rfl, by decide +kernel⟩
theorem ll_X10_291 : Cond.constantLong RX10 291 (65536) ∈ lw_good := (mg 1537 (by decide +kernel) rfl)
theorem ll_X10_293 : Cond.constantLong RX10 293 (32768) ∈ lw_good := (mg 1538 (by decide +kernel) rfl)
theorem lf_X10_62 : LF RX10 62 9 28 := ⟨by decide, by decide, (RX10, TX10, 45), rfl, rfl, rfl, inG9, Or.inl (mg 1284 (by decide +kernel) rfl)⟩
theorem sk_202 : SHk 202 = 10 := by decide +kernel
theorem ln_202 : LN 202 = 5 := by decide +kernel
theorem lf_X10_270 : LF RX10 270 9 31 := ⟨by decide, by decide, (RX10, TX10, 45), rfl, rfl, rfl, inG9, Or.inl (mg 1287 (by decide +kernel) rfl)⟩
theorem lf_X10_273 : LF RX10 273 9 32 := ⟨by decide, by decide, (RX10, TX10, 45), rfl, rfl, rfl, inG9, Or.inl (mg 1288 (by decide +kernel) rfl)⟩
theorem lf_X10_68 : LF RX10 68 9 30 := ⟨by decide, by decide, (RX10, TX10, 45), rfl, rfl, rfl, inG9, Or.inl (mg 1286 (by decide +kernel) rfl)⟩
theorem sk_204 : SHk 204 = 10 := by decide +kernel
theorem ln_204 : LN 204 = 3 := by decide +kernel
theorem lf_X10_65 : LF RX10 65 9 29 := ⟨by decide, by decide, (RX10, TX10, 45), rfl, rfl, rfl, inG9, Or.inl (mg 1285 (by decide +kernel) rfl)⟩
theorem sk_203 : SHk 203 = 10 := by decide +kernel
theorem ln_203 : LN 203 = 3 := by decide +kernel
theorem lpt_9_31 : LPt 9 31 .int := ⟨(RX10, TX10, 45), rfl, ⟨tyX10, tyX10_ok⟩, nmX10, rfl, by decide +kernel⟩
theorem ms_X10_279 : LSt RX10 279 M_X10_sizeOf 1 := ⟨⟨by decide, by decide, by decide +kernel⟩, ⟨(mg 1549 (by decide +kernel) rfl), (mg 1548 (by decide +kernel) rfl), (mg 160 (by decide +kernel) rfl)⟩, Or.inl (mg 1547 (by decide +kernel) rfl)⟩
theorem mv_X10_276 : LVt RX10 276 RX10 M_X10_layouts 2 := ⟨rfl, ⟨by decide, by decide, by decide +kernel⟩, ⟨(mg 1546 (by decide +kernel) rfl), (mg 1545 (by decide +kernel) rfl), (mg 112 (by decide +kernel) rfl), (mg 160 (by decide +kernel) rfl)⟩, Or.inl (mg 1543 (by decide +kernel) rfl)⟩
theorem lpt_9_32 : LPt 9 32 .int := ⟨(RX10, TX10, 45), rfl, ⟨tyX10, tyX10_ok⟩, nmX10, rfl, by decide +kernel⟩
theorem lf_X10_77 : LF RX10 77 9 37 := ⟨by decide, by decide, (RX10, TX10, 45), rfl, rfl, rfl, inG9, Or.inl (mg 1293 (by decide +kernel) rfl)⟩
theorem sk_207 : SHk 207 = 10 := by decide +kernel
theorem ln_207 : LN 207 = 9 := by decide +kernel
theorem lf_X10_71 : LF RX10 71 9 34 := ⟨by decide, by decide, (RX10, TX10, 45), rfl, rfl, rfl, inG9, Or.inl (mg 1290 (by decide +kernel) rfl)⟩
theorem sk_205 : SHk 205 = 10 := by decide +kernel
theorem ln_205 : LN 205 = 45 := by decide +kernel
theorem lf_X10_74 : LF RX10 74 9 35 := ⟨by decide, by decide, (RX10, TX10, 45), rfl, rfl, rfl, inG9, Or.inl (mg 1291 (by decide +kernel) rfl)⟩
theorem sk_206 : SHk 206 = 10 := by decide +kernel
theorem ln_206 : LN 206 = 90 := by decide +kernel
theorem mv_X10_314 : LVt RX10 314 RX10 M_X10_at 4 := ⟨rfl, ⟨by decide, by decide, by decide +kernel⟩, ⟨(mg 1565 (by decide +kernel) rfl), (mg 1564 (by decide +kernel) rfl), (mg 116 (by decide +kernel) rfl), (mg 160 (by decide +kernel) rfl)⟩, Or.inl (mg 1562 (by decide +kernel) rfl)⟩
theorem mv_X10_295 : LVt RX10 295 RX10 M_X10_drawn 1 := ⟨rfl, ⟨by decide, by decide, by decide +kernel⟩, ⟨(mg 1533 (by decide +kernel) rfl), (mg 1532 (by decide +kernel) rfl), (mg 110 (by decide +kernel) rfl), (mg 160 (by decide +kernel) rfl)⟩, Or.inl (mg 1530 (by decide +kernel) rfl)⟩
theorem lf_X10_301 : LF RX10 301 9 36 := ⟨by decide, by decide, (RX10, TX10, 45), rfl, rfl, rfl, inG9, Or.inl (mg 1292 (by decide +kernel) rfl)⟩
theorem lpt_9_36 : LPt 9 36 .int := ⟨(RX10, TX10, 45), rfl, ⟨tyX10, tyX10_ok⟩, nmX10, rfl, by decide +kernel⟩
theorem mv_X10_304 : LVt RX10 304 RX10 M_X10_layoutOf 2 := ⟨rfl, ⟨by decide, by decide, by decide +kernel⟩, ⟨(mg 1542 (by decide +kernel) rfl), (mg 1541 (by decide +kernel) rfl), (mg 111 (by decide +kernel) rfl), (mg 160 (by decide +kernel) rfl)⟩, Or.inl (mg 1539 (by decide +kernel) rfl)⟩
theorem mv_X10_307 : LVt RX10 307 RX10 M_X10_firstOf 2 := ⟨rfl, ⟨by decide, by decide, by decide +kernel⟩, ⟨(mg 1553 (by decide +kernel) rfl), (mg 1552 (by decide +kernel) rfl), (mg 113 (by decide +kernel) rfl), (mg 160 (by decide +kernel) rfl)⟩, Or.inl (mg 1550 (by decide +kernel) rfl)⟩
theorem mv_X10_298 : LVt RX10 298 RX10 M_X10_mixes 2 := ⟨rfl, ⟨by decide, by decide, by decide +kernel⟩, ⟨(mg 1557 (by decide +kernel) rfl), (mg 1556 (by decide +kernel) rfl), (mg 114 (by decide +kernel) rfl), (mg 160 (by decide +kernel) rfl)⟩, Or.inl (mg 1554 (by decide +kernel) rfl)⟩
theorem mv_X10_310 : LVt RX10 310 RX10 M_X10_lays 6 := ⟨rfl, ⟨by decide, by decide, by decide +kernel⟩, ⟨(mg 1561 (by decide +kernel) rfl), (mg 1560 (by decide +kernel) rfl), (mg 115 (by decide +kernel) rfl), (mg 160 (by decide +kernel) rfl)⟩, Or.inl (mg 1558 (by decide +kernel) rfl)⟩
theorem mv_X10_317 : LVt RX10 317 RX10 M_X10_makes 3 := ⟨rfl, ⟨by decide, by decide, by decide +kernel⟩, ⟨(mg 1529 (by decide +kernel) rfl), (mg 1528 (by decide +kernel) rfl), (mg 109 (by decide +kernel) rfl), (mg 160 (by decide +kernel) rfl)⟩, Or.inl (mg 1526 (by decide +kernel) rfl)⟩
theorem lf_X10_43 : LF RX10 43 9 20 := ⟨by decide, by decide, (RX10, TX10, 45), rfl, rfl, rfl, inG9, Or.inl (mg 1276 (by decide +kernel) rfl)⟩
theorem sk_196 : SHk 196 = 10 := by decide +kernel
theorem ln_196 : LN 196 = 48 := by decide +kernel
theorem mv_X10_321 : LVt RX10 321 RX10 M_X10_areSame 3 := ⟨rfl, ⟨by decide, by decide, by decide +kernel⟩, ⟨(mg 1525 (by decide +kernel) rfl), (mg 1524 (by decide +kernel) rfl), (mg 108 (by decide +kernel) rfl), (mg 160 (by decide +kernel) rfl)⟩, Or.inl (mg 1522 (by decide +kernel) rfl)⟩
theorem ll_X10_213 : Cond.constantLong RX10 213 (385240) ∈ lw_good := (mg 1517 (by decide +kernel) rfl)
theorem mv_X10_215 : LVt RX10 215 RX10 M_X10_isSoldIn 2 := ⟨rfl, ⟨by decide, by decide, by decide +kernel⟩, ⟨(mg 1521 (by decide +kernel) rfl), (mg 1520 (by decide +kernel) rfl), (mg 107 (by decide +kernel) rfl), (mg 160 (by decide +kernel) rfl)⟩, Or.inl (mg 1518 (by decide +kernel) rfl)⟩
theorem cb_36 : (Int8.ofInt (36)).toInt32 = (36 : Int32) := by decide
theorem ll_X10_219 : Cond.constantLong RX10 219 (8864618) ∈ lw_good := (mg 1566 (by decide +kernel) rfl)
theorem ll_X10_221 : Cond.constantLong RX10 221 (13550) ∈ lw_good := (mg 1567 (by decide +kernel) rfl)
theorem lf_X10_40 : LF RX10 40 9 19 := ⟨by decide, by decide, (RX10, TX10, 45), rfl, rfl, rfl, inG9, Or.inl (mg 1275 (by decide +kernel) rfl)⟩
theorem sk_195 : SHk 195 = 10 := by decide +kernel
theorem ln_195 : LN 195 = 18 := by decide +kernel
theorem cb_12 : (Int8.ofInt (12)).toInt32 = (12 : Int32) := by decide
theorem ll_X10_223 : Cond.constantLong RX10 223 (15216) ∈ lw_good := (mg 1568 (by decide +kernel) rfl)
theorem ll_X10_225 : Cond.constantLong RX10 225 (4562600) ∈ lw_good := (mg 1569 (by decide +kernel) rfl)
theorem ll_X10_227 : Cond.constantLong RX10 227 (3890376722) ∈ lw_good := (mg 1570 (by decide +kernel) rfl)
theorem ll_X10_229 : Cond.constantLong RX10 229 (79) ∈ lw_good := (mg 1571 (by decide +kernel) rfl)
theorem cb_37 : (Int8.ofInt (37)).toInt32 = (37 : Int32) := by decide
theorem cb_38 : (Int8.ofInt (38)).toInt32 = (38 : Int32) := by decide
theorem ll_X10_231 : Cond.constantLong RX10 231 (43823259) ∈ lw_good := (mg 1572 (by decide +kernel) rfl)
theorem cb_39 : (Int8.ofInt (39)).toInt32 = (39 : Int32) := by decide
theorem lc_X10_233 : Cond.constant RX10 233 (99999) ∈ lw_good := (mg 1573 (by decide +kernel) rfl)
theorem lf_X10_31 : LF RX10 31 9 16 := ⟨by decide, by decide, (RX10, TX10, 45), rfl, rfl, rfl, inG9, Or.inl (mg 1272 (by decide +kernel) rfl)⟩
theorem sk_192 : SHk 192 = 10 := by decide +kernel
theorem ln_192 : LN 192 = 6 := by decide +kernel
theorem cb_7 : (Int8.ofInt (7)).toInt32 = (7 : Int32) := by decide
theorem lf_X10_46 : LF RX10 46 9 21 := ⟨by decide, by decide, (RX10, TX10, 45), rfl, rfl, rfl, inG9, Or.inl (mg 1277 (by decide +kernel) rfl)⟩
theorem sk_197 : SHk 197 = 10 := by decide +kernel
theorem ln_197 : LN 197 = 270 := by decide +kernel
theorem ms_X10_259 : LSt RX10 259 M_X10_copyRow 4 := ⟨⟨by decide, by decide, by decide +kernel⟩, ⟨(mg 1592 (by decide +kernel) rfl), (mg 1591 (by decide +kernel) rfl), (mg 160 (by decide +kernel) rfl)⟩, Or.inl (mg 1590 (by decide +kernel) rfl)⟩
theorem mv_X10_234 : LVt RX10 234 RX10 M_X10_clears 0 := ⟨rfl, ⟨by decide, by decide, by decide +kernel⟩, ⟨(mg 1437 (by decide +kernel) rfl), (mg 1436 (by decide +kernel) rfl), (mg 89 (by decide +kernel) rfl), (mg 160 (by decide +kernel) rfl)⟩, Or.inl (mg 1434 (by decide +kernel) rfl)⟩
theorem mv_X10_237 : LVt RX10 237 RX10 M_X10_begins 0 := ⟨rfl, ⟨by decide, by decide, by decide +kernel⟩, ⟨(mg 1441 (by decide +kernel) rfl), (mg 1440 (by decide +kernel) rfl), (mg 90 (by decide +kernel) rfl), (mg 160 (by decide +kernel) rfl)⟩, Or.inl (mg 1438 (by decide +kernel) rfl)⟩
theorem mv_X10_240 : LVt RX10 240 RX10 M_X10_first 0 := ⟨rfl, ⟨by decide, by decide, by decide +kernel⟩, ⟨(mg 1462 (by decide +kernel) rfl), (mg 1461 (by decide +kernel) rfl), (mg 94 (by decide +kernel) rfl), (mg 160 (by decide +kernel) rfl)⟩, Or.inl (mg 1459 (by decide +kernel) rfl)⟩
theorem mv_X10_246 : LVt RX10 246 RX10 M_X10_ends 0 := ⟨rfl, ⟨by decide, by decide, by decide +kernel⟩, ⟨(mg 1577 (by decide +kernel) rfl), (mg 1576 (by decide +kernel) rfl), (mg 117 (by decide +kernel) rfl), (mg 160 (by decide +kernel) rfl)⟩, Or.inl (mg 1574 (by decide +kernel) rfl)⟩
theorem mv_X10_243 : LVt RX10 243 RX10 M_X10_line 0 := ⟨rfl, ⟨by decide, by decide, by decide +kernel⟩, ⟨(mg 1516 (by decide +kernel) rfl), (mg 1515 (by decide +kernel) rfl), (mg 106 (by decide +kernel) rfl), (mg 160 (by decide +kernel) rfl)⟩, Or.inl (mg 1513 (by decide +kernel) rfl)⟩
theorem mv_X10_249 : LVt RX10 249 RX10 M_X10_isOver 0 := ⟨rfl, ⟨by decide, by decide, by decide +kernel⟩, ⟨(mg 1581 (by decide +kernel) rfl), (mg 1580 (by decide +kernel) rfl), (mg 118 (by decide +kernel) rfl), (mg 160 (by decide +kernel) rfl)⟩, Or.inl (mg 1578 (by decide +kernel) rfl)⟩
theorem mv_X10_252 : LVt RX10 252 RX10 M_X10_callsBy 2 := ⟨rfl, ⟨by decide, by decide, by decide +kernel⟩, ⟨(mg 1585 (by decide +kernel) rfl), (mg 1584 (by decide +kernel) rfl), (mg 119 (by decide +kernel) rfl), (mg 160 (by decide +kernel) rfl)⟩, Or.inl (mg 1582 (by decide +kernel) rfl)⟩
theorem mv_X10_256 : LVt RX10 256 RX10 M_X10_copyHall 2 := ⟨rfl, ⟨by decide, by decide, by decide +kernel⟩, ⟨(mg 1589 (by decide +kernel) rfl), (mg 1588 (by decide +kernel) rfl), (mg 120 (by decide +kernel) rfl), (mg 160 (by decide +kernel) rfl)⟩, Or.inl (mg 1586 (by decide +kernel) rfl)⟩
theorem mv_X10_324 : LVt RX10 324 RX10 M_X10_isHall 0 := ⟨rfl, ⟨by decide, by decide, by decide +kernel⟩, ⟨(mg 1608 (by decide +kernel) rfl), (mg 1607 (by decide +kernel) rfl), (mg 122 (by decide +kernel) rfl), (mg 160 (by decide +kernel) rfl)⟩, Or.inl (mg 1605 (by decide +kernel) rfl)⟩
theorem ll_X10_327 : Cond.constantLong RX10 327 (9999) ∈ lw_good := (mg 1641 (by decide +kernel) rfl)
theorem mv_X10_329 : LVt RX10 329 RX10 M_X10_isColumn 1 := ⟨rfl, ⟨by decide, by decide, by decide +kernel⟩, ⟨(mg 1600 (by decide +kernel) rfl), (mg 1599 (by decide +kernel) rfl), (mg 121 (by decide +kernel) rfl), (mg 160 (by decide +kernel) rfl)⟩, Or.inl (mg 1597 (by decide +kernel) rfl)⟩
theorem mv_X10_332 : LVt RX10 332 RX10 M_X10_all 0 := ⟨rfl, ⟨by decide, by decide, by decide +kernel⟩, ⟨(mg 1612 (by decide +kernel) rfl), (mg 1611 (by decide +kernel) rfl), (mg 123 (by decide +kernel) rfl), (mg 160 (by decide +kernel) rfl)⟩, Or.inl (mg 1609 (by decide +kernel) rfl)⟩
theorem mv_X10_336 : LVt RX10 336 RX10 M_X10_isCard 1 := ⟨rfl, ⟨by decide, by decide, by decide +kernel⟩, ⟨(mg 1624 (by decide +kernel) rfl), (mg 1623 (by decide +kernel) rfl), (mg 124 (by decide +kernel) rfl), (mg 160 (by decide +kernel) rfl)⟩, Or.inl (mg 1621 (by decide +kernel) rfl)⟩
theorem mv_X10_339 : LVt RX10 339 RX10 M_X10_whyNot 1 := ⟨rfl, ⟨by decide, by decide, by decide +kernel⟩, ⟨(mg 1632 (by decide +kernel) rfl), (mg 1631 (by decide +kernel) rfl), (mg 125 (by decide +kernel) rfl), (mg 160 (by decide +kernel) rfl)⟩, Or.inl (mg 1629 (by decide +kernel) rfl)⟩
theorem mv_X10_342 : LVt RX10 342 RX10 M_X10_isSerial 1 := ⟨rfl, ⟨by decide, by decide, by decide +kernel⟩, ⟨(mg 1640 (by decide +kernel) rfl), (mg 1639 (by decide +kernel) rfl), (mg 126 (by decide +kernel) rfl), (mg 160 (by decide +kernel) rfl)⟩, Or.inl (mg 1637 (by decide +kernel) rfl)⟩
theorem mv_X10_345 : LVt RX10 345 RX10 M_X10_isNumber 1 := ⟨rfl, ⟨by decide, by decide, by decide +kernel⟩, ⟨(mg 1653 (by decide +kernel) rfl), (mg 1652 (by decide +kernel) rfl), (mg 127 (by decide +kernel) rfl), (mg 160 (by decide +kernel) rfl)⟩, Or.inl (mg 1650 (by decide +kernel) rfl)⟩
theorem ll_X10_348 : Cond.constantLong RX10 348 (2000000000) ∈ lw_good := (mg 1678 (by decide +kernel) rfl)
theorem mv_X10_350 : LVt RX10 350 RX10 M_X10_calledIn 2 := ⟨rfl, ⟨by decide, by decide, by decide +kernel⟩, ⟨(mg 1694 (by decide +kernel) rfl), (mg 1693 (by decide +kernel) rfl), (mg 128 (by decide +kernel) rfl), (mg 160 (by decide +kernel) rfl)⟩, Or.inl (mg 1691 (by decide +kernel) rfl)⟩
theorem mv_X10_353 : LVt RX10 353 RX10 M_X10_isAsked 3 := ⟨rfl, ⟨by decide, by decide, by decide +kernel⟩, ⟨(mg 1702 (by decide +kernel) rfl), (mg 1701 (by decide +kernel) rfl), (mg 129 (by decide +kernel) rfl), (mg 160 (by decide +kernel) rfl)⟩, Or.inl (mg 1699 (by decide +kernel) rfl)⟩
theorem mv_X10_356 : LVt RX10 356 RX10 M_X10_lackOf 4 := ⟨rfl, ⟨by decide, by decide, by decide +kernel⟩, ⟨(mg 1706 (by decide +kernel) rfl), (mg 1705 (by decide +kernel) rfl), (mg 130 (by decide +kernel) rfl), (mg 160 (by decide +kernel) rfl)⟩, Or.inl (mg 1703 (by decide +kernel) rfl)⟩
theorem lf_X10_80 : LF RX10 80 9 38 := ⟨by decide, by decide, (RX10, TX10, 45), rfl, rfl, rfl, inG9, Or.inl (mg 1294 (by decide +kernel) rfl)⟩
theorem sk_208 : SHk 208 = 10 := by decide +kernel
theorem ln_208 : LN 208 = 3 := by decide +kernel
theorem ll_X10_359 : Cond.constantLong RX10 359 (2) ∈ lw_good := (mg 1718 (by decide +kernel) rfl)
theorem ms_X10_361 : LSt RX10 361 M_X10_isKind 1 := ⟨⟨by decide, by decide, by decide +kernel⟩, ⟨(mg 1717 (by decide +kernel) rfl), (mg 1716 (by decide +kernel) rfl), (mg 160 (by decide +kernel) rfl)⟩, Or.inl (mg 1715 (by decide +kernel) rfl)⟩
theorem mv_X10_364 : LVt RX10 364 RX10 M_X10_lacksOf 4 := ⟨rfl, ⟨by decide, by decide, by decide +kernel⟩, ⟨(mg 1722 (by decide +kernel) rfl), (mg 1721 (by decide +kernel) rfl), (mg 131 (by decide +kernel) rfl), (mg 160 (by decide +kernel) rfl)⟩, Or.inl (mg 1719 (by decide +kernel) rfl)⟩
theorem mv_X10_367 : LVt RX10 367 RX10 M_X10_doneOf 3 := ⟨rfl, ⟨by decide, by decide, by decide +kernel⟩, ⟨(mg 1730 (by decide +kernel) rfl), (mg 1729 (by decide +kernel) rfl), (mg 132 (by decide +kernel) rfl), (mg 160 (by decide +kernel) rfl)⟩, Or.inl (mg 1727 (by decide +kernel) rfl)⟩
theorem lf_X10_371 : LF RX10 371 9 40 := ⟨by decide, by decide, (RX10, TX10, 45), rfl, rfl, rfl, inG9, Or.inl (mg 1296 (by decide +kernel) rfl)⟩
theorem lpt_9_40 : LPt 9 40 .int := ⟨(RX10, TX10, 45), rfl, ⟨tyX10, tyX10_ok⟩, nmX10, rfl, by decide +kernel⟩
theorem lf_X10_374 : LF RX10 374 9 41 := ⟨by decide, by decide, (RX10, TX10, 45), rfl, rfl, rfl, inG9, Or.inl (mg 1297 (by decide +kernel) rfl)⟩
theorem lpt_9_41 : LPt 9 41 .int := ⟨(RX10, TX10, 45), rfl, ⟨tyX10, tyX10_ok⟩, nmX10, rfl, by decide +kernel⟩
theorem lf_X10_83 : LF RX10 83 9 39 := ⟨by decide, by decide, (RX10, TX10, 45), rfl, rfl, rfl, inG9, Or.inl (mg 1295 (by decide +kernel) rfl)⟩
theorem sk_209 : SHk 209 = 10 := by decide +kernel
theorem ln_209 : LN 209 = 24 := by decide +kernel
theorem mv_X10_377 : LVt RX10 377 RX10 M_X10_races 2 := ⟨rfl, ⟨by decide, by decide, by decide +kernel⟩, ⟨(mg 1742 (by decide +kernel) rfl), (mg 1741 (by decide +kernel) rfl), (mg 133 (by decide +kernel) rfl), (mg 160 (by decide +kernel) rfl)⟩, Or.inl (mg 1739 (by decide +kernel) rfl)⟩
theorem mv_X10_380 : LVt RX10 380 RX10 M_X10_isWinner 2 := ⟨rfl, ⟨by decide, by decide, by decide +kernel⟩, ⟨(mg 1750 (by decide +kernel) rfl), (mg 1749 (by decide +kernel) rfl), (mg 134 (by decide +kernel) rfl), (mg 160 (by decide +kernel) rfl)⟩, Or.inl (mg 1747 (by decide +kernel) rfl)⟩
theorem mv_X10_383 : LVt RX10 383 RX10 M_X10_eachOf 1 := ⟨rfl, ⟨by decide, by decide, by decide +kernel⟩, ⟨(mg 1758 (by decide +kernel) rfl), (mg 1757 (by decide +kernel) rfl), (mg 135 (by decide +kernel) rfl), (mg 160 (by decide +kernel) rfl)⟩, Or.inl (mg 1755 (by decide +kernel) rfl)⟩
theorem cb_6 : (Int8.ofInt (6)).toInt32 = (6 : Int32) := by decide
theorem mv_X10_386 : LVt RX10 386 RX10 M_X10_jackpotEach 0 := ⟨rfl, ⟨by decide, by decide, by decide +kernel⟩, ⟨(mg 1766 (by decide +kernel) rfl), (mg 1765 (by decide +kernel) rfl), (mg 136 (by decide +kernel) rfl), (mg 160 (by decide +kernel) rfl)⟩, Or.inl (mg 1763 (by decide +kernel) rfl)⟩
theorem lf_X10_86 : LF RX10 86 9 42 := ⟨by decide, by decide, (RX10, TX10, 45), rfl, rfl, rfl, inG9, Or.inl (mg 1298 (by decide +kernel) rfl)⟩
theorem sk_210 : SHk 210 = 10 := by decide +kernel
theorem ln_210 : LN 210 = 1800 := by decide +kernel
theorem lf_X10_89 : LF RX10 89 9 43 := ⟨by decide, by decide, (RX10, TX10, 45), rfl, rfl, rfl, inG9, Or.inl (mg 1299 (by decide +kernel) rfl)⟩
theorem sk_211 : SHk 211 = 10 := by decide +kernel
theorem ln_211 : LN 211 = 40 := by decide +kernel
theorem ll_X10_389 : Cond.constantLong RX10 389 (39) ∈ lw_good := (mg 1775 (by decide +kernel) rfl)
theorem mv_X10_391 : LVt RX10 391 RX10 M_X10_laysBook 1 := ⟨rfl, ⟨by decide, by decide, by decide +kernel⟩, ⟨(mg 1779 (by decide +kernel) rfl), (mg 1778 (by decide +kernel) rfl), (mg 137 (by decide +kernel) rfl), (mg 160 (by decide +kernel) rfl)⟩, Or.inl (mg 1776 (by decide +kernel) rfl)⟩
theorem ll_X10_394 : Cond.constantLong RX10 394 (99) ∈ lw_good := (mg 1788 (by decide +kernel) rfl)
theorem ll_X10_396 : Cond.constantLong RX10 396 (10) ∈ lw_good := (mg 1789 (by decide +kernel) rfl)
theorem mv_X10_398 : LVt RX10 398 RX10 M_X10_later 2 := ⟨rfl, ⟨by decide, by decide, by decide +kernel⟩, ⟨(mg 1797 (by decide +kernel) rfl), (mg 1796 (by decide +kernel) rfl), (mg 140 (by decide +kernel) rfl), (mg 160 (by decide +kernel) rfl)⟩, Or.inl (mg 1794 (by decide +kernel) rfl)⟩
theorem mv_X10_401 : LVt RX10 401 RX10 M_X10_whyNotShape 1 := ⟨rfl, ⟨by decide, by decide, by decide +kernel⟩, ⟨(mg 1787 (by decide +kernel) rfl), (mg 1786 (by decide +kernel) rfl), (mg 138 (by decide +kernel) rfl), (mg 160 (by decide +kernel) rfl)⟩, Or.inl (mg 1784 (by decide +kernel) rfl)⟩
theorem mv_X10_404 : LVt RX10 404 RX10 M_X10_shapedOf 2 := ⟨rfl, ⟨by decide, by decide, by decide +kernel⟩, ⟨(mg 1793 (by decide +kernel) rfl), (mg 1792 (by decide +kernel) rfl), (mg 139 (by decide +kernel) rfl), (mg 160 (by decide +kernel) rfl)⟩, Or.inl (mg 1790 (by decide +kernel) rfl)⟩
theorem mv_X10_407 : LVt RX10 407 RX10 M_X10_endOf 3 := ⟨rfl, ⟨by decide, by decide, by decide +kernel⟩, ⟨(mg 1809 (by decide +kernel) rfl), (mg 1808 (by decide +kernel) rfl), (mg 141 (by decide +kernel) rfl), (mg 160 (by decide +kernel) rfl)⟩, Or.inl (mg 1806 (by decide +kernel) rfl)⟩
theorem mv_X10_410 : LVt RX10 410 RX10 M_X10_isBy 2 := ⟨rfl, ⟨by decide, by decide, by decide +kernel⟩, ⟨(mg 1825 (by decide +kernel) rfl), (mg 1824 (by decide +kernel) rfl), (mg 142 (by decide +kernel) rfl), (mg 160 (by decide +kernel) rfl)⟩, Or.inl (mg 1822 (by decide +kernel) rfl)⟩
theorem lf_X10_92 : LF RX10 92 9 44 := ⟨by decide, by decide, (RX10, TX10, 45), rfl, rfl, rfl, inG9, Or.inl (mg 1300 (by decide +kernel) rfl)⟩
theorem sk_212 : SHk 212 = 10 := by decide +kernel
theorem ln_212 : LN 212 = 368 := by decide +kernel
theorem ll_X10_413 : Cond.constantLong RX10 413 (8) ∈ lw_good := (mg 1834 (by decide +kernel) rfl)
theorem mv_X10_415 : LVt RX10 415 RX10 M_X10_laysSlow 2 := ⟨rfl, ⟨by decide, by decide, by decide +kernel⟩, ⟨(mg 1838 (by decide +kernel) rfl), (mg 1837 (by decide +kernel) rfl), (mg 143 (by decide +kernel) rfl), (mg 160 (by decide +kernel) rfl)⟩, Or.inl (mg 1835 (by decide +kernel) rfl)⟩
theorem mv_X10_418 : LVt RX10 418 RX10 M_X10_whenOf 1 := ⟨rfl, ⟨by decide, by decide, by decide +kernel⟩, ⟨(mg 1846 (by decide +kernel) rfl), (mg 1845 (by decide +kernel) rfl), (mg 144 (by decide +kernel) rfl), (mg 160 (by decide +kernel) rfl)⟩, Or.inl (mg 1843 (by decide +kernel) rfl)⟩
theorem mv_X10_421 : LVt RX10 421 RX10 M_X10_winsInAll 0 := ⟨rfl, ⟨by decide, by decide, by decide +kernel⟩, ⟨(mg 1854 (by decide +kernel) rfl), (mg 1853 (by decide +kernel) rfl), (mg 145 (by decide +kernel) rfl), (mg 160 (by decide +kernel) rfl)⟩, Or.inl (mg 1851 (by decide +kernel) rfl)⟩
theorem ms_X10_424 : LSt RX10 424 M_X10_choose 2 := ⟨⟨by decide, by decide, by decide +kernel⟩, ⟨(mg 1873 (by decide +kernel) rfl), (mg 1872 (by decide +kernel) rfl), (mg 160 (by decide +kernel) rfl)⟩, Or.inl (mg 1871 (by decide +kernel) rfl)⟩
theorem mv_X10_428 : LVt RX10 428 RX10 M_X10_setsOf 4 := ⟨rfl, ⟨by decide, by decide, by decide +kernel⟩, ⟨(mg 1870 (by decide +kernel) rfl), (mg 1869 (by decide +kernel) rfl), (mg 148 (by decide +kernel) rfl), (mg 160 (by decide +kernel) rfl)⟩, Or.inl (mg 1867 (by decide +kernel) rfl)⟩
theorem ms_X10_432 : LSt RX10 432 M_X10_common 2 := ⟨⟨by decide, by decide, by decide +kernel⟩, ⟨(mg 1879 (by decide +kernel) rfl), (mg 1878 (by decide +kernel) rfl), (mg 160 (by decide +kernel) rfl)⟩, Or.inl (mg 1877 (by decide +kernel) rfl)⟩
theorem mv_X10_436 : LVt RX10 436 RX10 M_X10_isChance 3 := ⟨rfl, ⟨by decide, by decide, by decide +kernel⟩, ⟨(mg 1862 (by decide +kernel) rfl), (mg 1861 (by decide +kernel) rfl), (mg 146 (by decide +kernel) rfl), (mg 160 (by decide +kernel) rfl)⟩, Or.inl (mg 1859 (by decide +kernel) rfl)⟩
theorem mv_X10_439 : LVt RX10 439 RX10 M_X10_setsOfKind 2 := ⟨rfl, ⟨by decide, by decide, by decide +kernel⟩, ⟨(mg 1866 (by decide +kernel) rfl), (mg 1865 (by decide +kernel) rfl), (mg 147 (by decide +kernel) rfl), (mg 160 (by decide +kernel) rfl)⟩, Or.inl (mg 1863 (by decide +kernel) rfl)⟩
theorem ms_X10_442 : LSt RX10 442 M_X10_told 3 := ⟨⟨by decide, by decide, by decide +kernel⟩, ⟨(mg 1876 (by decide +kernel) rfl), (mg 1875 (by decide +kernel) rfl), (mg 160 (by decide +kernel) rfl)⟩, Or.inl (mg 1874 (by decide +kernel) rfl)⟩
theorem ll_X10_446 : Cond.constantLong RX10 446 (-2) ∈ lw_good := (mg 1880 (by decide +kernel) rfl)
theorem mv_X10_448 : LVt RX10 448 RX10 M_X10_setsOfStrip 2 := ⟨rfl, ⟨by decide, by decide, by decide +kernel⟩, ⟨(mg 1888 (by decide +kernel) rfl), (mg 1887 (by decide +kernel) rfl), (mg 149 (by decide +kernel) rfl), (mg 160 (by decide +kernel) rfl)⟩, Or.inl (mg 1885 (by decide +kernel) rfl)⟩
theorem ll_X10_451 : Cond.constantLong RX10 451 (1000) ∈ lw_good := (mg 1897 (by decide +kernel) rfl)
theorem ll_X10_453 : Cond.constantLong RX10 453 (20) ∈ lw_good := (mg 1906 (by decide +kernel) rfl)
theorem lf_X10_49 : LF RX10 49 9 22 := ⟨by decide, by decide, (RX10, TX10, 45), rfl, rfl, rfl, inG9, Or.inl (mg 1278 (by decide +kernel) rfl)⟩
theorem sk_198 : SHk 198 = 13 := by decide +kernel
theorem ln_198 : LN 198 = 3 := by decide +kernel
theorem cb_63 : (Int8.ofInt (63)).toInt32 = (63 : Int32) := by decide
theorem ci_6 : Int32.ofInt (6) = (6 : Int32) := by decide
theorem mv_L_239 : LVt RL 239 RX9 M_X9_paste 5 := ⟨rfl, ⟨by decide, by decide, by decide +kernel⟩, ⟨(mg 1239 (by decide +kernel) rfl), (mg 1237 (by decide +kernel) rfl), (mg 1238 (by decide +kernel) rfl), (mg 151 (by decide +kernel) rfl)⟩, Or.inl (mg 1236 (by decide +kernel) rfl)⟩
theorem mv_L_242 : LVt RL 242 RX10 M_X10_paste 5 := ⟨rfl, ⟨by decide, by decide, by decide +kernel⟩, ⟨(mg 1413 (by decide +kernel) rfl), (mg 1411 (by decide +kernel) rfl), (mg 1412 (by decide +kernel) rfl), (mg 160 (by decide +kernel) rfl)⟩, Or.inl (mg 1410 (by decide +kernel) rfl)⟩
theorem ll_L_232 : Cond.constantLong RL 232 (4294967295) ∈ lw_good := (mg 1923 (by decide +kernel) rfl)
theorem mv_L_234 : LVt RL 234 RX9 M_X9_write 3 := ⟨rfl, ⟨by decide, by decide, by decide +kernel⟩, ⟨(mg 1228 (by decide +kernel) rfl), (mg 1226 (by decide +kernel) rfl), (mg 1227 (by decide +kernel) rfl), (mg 151 (by decide +kernel) rfl)⟩, Or.inl (mg 1225 (by decide +kernel) rfl)⟩
theorem mv_L_238 : LVt RL 238 RX10 M_X10_write 3 := ⟨rfl, ⟨by decide, by decide, by decide +kernel⟩, ⟨(mg 1406 (by decide +kernel) rfl), (mg 1404 (by decide +kernel) rfl), (mg 1405 (by decide +kernel) rfl), (mg 160 (by decide +kernel) rfl)⟩, Or.inl (mg 1403 (by decide +kernel) rfl)⟩
theorem mv_L_228 : LVt RL 228 RX9 M_X9_row 3 := ⟨rfl, ⟨by decide, by decide, by decide +kernel⟩, ⟨(mg 1217 (by decide +kernel) rfl), (mg 1215 (by decide +kernel) rfl), (mg 1216 (by decide +kernel) rfl), (mg 151 (by decide +kernel) rfl)⟩, Or.inl (mg 1214 (by decide +kernel) rfl)⟩
theorem mv_L_231 : LVt RL 231 RX10 M_X10_row 3 := ⟨rfl, ⟨by decide, by decide, by decide +kernel⟩, ⟨(mg 1395 (by decide +kernel) rfl), (mg 1393 (by decide +kernel) rfl), (mg 1394 (by decide +kernel) rfl), (mg 160 (by decide +kernel) rfl)⟩, Or.inl (mg 1392 (by decide +kernel) rfl)⟩
theorem mv_L_224 : LVt RL 224 RX9 M_X9_back 1 := ⟨rfl, ⟨by decide, by decide, by decide +kernel⟩, ⟨(mg 1213 (by decide +kernel) rfl), (mg 1211 (by decide +kernel) rfl), (mg 1212 (by decide +kernel) rfl), (mg 151 (by decide +kernel) rfl)⟩, Or.inl (mg 1210 (by decide +kernel) rfl)⟩
theorem mv_L_227 : LVt RL 227 RX10 M_X10_back 1 := ⟨rfl, ⟨by decide, by decide, by decide +kernel⟩, ⟨(mg 1922 (by decide +kernel) rfl), (mg 1920 (by decide +kernel) rfl), (mg 1921 (by decide +kernel) rfl), (mg 160 (by decide +kernel) rfl)⟩, Or.inl (mg 1919 (by decide +kernel) rfl)⟩
theorem mv_L_220 : LVt RL 220 RX9 M_X9_keep 1 := ⟨rfl, ⟨by decide, by decide, by decide +kernel⟩, ⟨(mg 1200 (by decide +kernel) rfl), (mg 1198 (by decide +kernel) rfl), (mg 1199 (by decide +kernel) rfl), (mg 151 (by decide +kernel) rfl)⟩, Or.inl (mg 1197 (by decide +kernel) rfl)⟩
theorem mv_L_223 : LVt RL 223 RX10 M_X10_keep 1 := ⟨rfl, ⟨by decide, by decide, by decide +kernel⟩, ⟨(mg 1918 (by decide +kernel) rfl), (mg 1916 (by decide +kernel) rfl), (mg 1917 (by decide +kernel) rfl), (mg 160 (by decide +kernel) rfl)⟩, Or.inl (mg 1915 (by decide +kernel) rfl)⟩
theorem mv_L_216 : LVt RL 216 RX9 M_X9_count 1 := ⟨rfl, ⟨by decide, by decide, by decide +kernel⟩, ⟨(mg 1192 (by decide +kernel) rfl), (mg 1190 (by decide +kernel) rfl), (mg 1191 (by decide +kernel) rfl), (mg 151 (by decide +kernel) rfl)⟩, Or.inl (mg 1189 (by decide +kernel) rfl)⟩
theorem mv_L_219 : LVt RL 219 RX10 M_X10_count 1 := ⟨rfl, ⟨by decide, by decide, by decide +kernel⟩, ⟨(mg 1914 (by decide +kernel) rfl), (mg 1912 (by decide +kernel) rfl), (mg 1913 (by decide +kernel) rfl), (mg 160 (by decide +kernel) rfl)⟩, Or.inl (mg 1911 (by decide +kernel) rfl)⟩
theorem mv_L_212 : LVt RL 212 RX9 M_X9_judge 1 := ⟨rfl, ⟨by decide, by decide, by decide +kernel⟩, ⟨(mg 1188 (by decide +kernel) rfl), (mg 1186 (by decide +kernel) rfl), (mg 1187 (by decide +kernel) rfl), (mg 151 (by decide +kernel) rfl)⟩, Or.inl (mg 1185 (by decide +kernel) rfl)⟩
theorem mv_L_215 : LVt RL 215 RX10 M_X10_judge 1 := ⟨rfl, ⟨by decide, by decide, by decide +kernel⟩, ⟨(mg 1910 (by decide +kernel) rfl), (mg 1908 (by decide +kernel) rfl), (mg 1909 (by decide +kernel) rfl), (mg 160 (by decide +kernel) rfl)⟩, Or.inl (mg 1907 (by decide +kernel) rfl)⟩
theorem mv_L_208 : LVt RL 208 RX9 M_X9_evenings 4 := ⟨rfl, ⟨by decide, by decide, by decide +kernel⟩, ⟨(mg 1183 (by decide +kernel) rfl), (mg 1181 (by decide +kernel) rfl), (mg 1182 (by decide +kernel) rfl), (mg 151 (by decide +kernel) rfl)⟩, Or.inl (mg 1180 (by decide +kernel) rfl)⟩
theorem mv_L_211 : LVt RL 211 RX10 M_X10_evenings 4 := ⟨rfl, ⟨by decide, by decide, by decide +kernel⟩, ⟨(mg 1905 (by decide +kernel) rfl), (mg 1903 (by decide +kernel) rfl), (mg 1904 (by decide +kernel) rfl), (mg 160 (by decide +kernel) rfl)⟩, Or.inl (mg 1902 (by decide +kernel) rfl)⟩
theorem mv_L_204 : LVt RL 204 RX9 M_X9_mean 2 := ⟨rfl, ⟨by decide, by decide, by decide +kernel⟩, ⟨(mg 1179 (by decide +kernel) rfl), (mg 1177 (by decide +kernel) rfl), (mg 1178 (by decide +kernel) rfl), (mg 151 (by decide +kernel) rfl)⟩, Or.inl (mg 1176 (by decide +kernel) rfl)⟩
theorem mv_L_207 : LVt RL 207 RX10 M_X10_mean 2 := ⟨rfl, ⟨by decide, by decide, by decide +kernel⟩, ⟨(mg 1901 (by decide +kernel) rfl), (mg 1899 (by decide +kernel) rfl), (mg 1900 (by decide +kernel) rfl), (mg 160 (by decide +kernel) rfl)⟩, Or.inl (mg 1898 (by decide +kernel) rfl)⟩
theorem mv_L_200 : LVt RL 200 RX9 M_X9_likely 3 := ⟨rfl, ⟨by decide, by decide, by decide +kernel⟩, ⟨(mg 1175 (by decide +kernel) rfl), (mg 1173 (by decide +kernel) rfl), (mg 1174 (by decide +kernel) rfl), (mg 151 (by decide +kernel) rfl)⟩, Or.inl (mg 1172 (by decide +kernel) rfl)⟩
theorem mv_L_203 : LVt RL 203 RX10 M_X10_likely 3 := ⟨rfl, ⟨by decide, by decide, by decide +kernel⟩, ⟨(mg 1896 (by decide +kernel) rfl), (mg 1894 (by decide +kernel) rfl), (mg 1895 (by decide +kernel) rfl), (mg 160 (by decide +kernel) rfl)⟩, Or.inl (mg 1893 (by decide +kernel) rfl)⟩
theorem mv_L_196 : LVt RL 196 RX9 M_X9_just 3 := ⟨rfl, ⟨by decide, by decide, by decide +kernel⟩, ⟨(mg 1171 (by decide +kernel) rfl), (mg 1169 (by decide +kernel) rfl), (mg 1170 (by decide +kernel) rfl), (mg 151 (by decide +kernel) rfl)⟩, Or.inl (mg 1168 (by decide +kernel) rfl)⟩
theorem mv_L_199 : LVt RL 199 RX10 M_X10_just 3 := ⟨rfl, ⟨by decide, by decide, by decide +kernel⟩, ⟨(mg 1892 (by decide +kernel) rfl), (mg 1890 (by decide +kernel) rfl), (mg 1891 (by decide +kernel) rfl), (mg 160 (by decide +kernel) rfl)⟩, Or.inl (mg 1889 (by decide +kernel) rfl)⟩
theorem mv_L_192 : LVt RL 192 RX9 M_X9_some 3 := ⟨rfl, ⟨by decide, by decide, by decide +kernel⟩, ⟨(mg 1163 (by decide +kernel) rfl), (mg 1161 (by decide +kernel) rfl), (mg 1162 (by decide +kernel) rfl), (mg 151 (by decide +kernel) rfl)⟩, Or.inl (mg 1160 (by decide +kernel) rfl)⟩
theorem mv_L_195 : LVt RL 195 RX10 M_X10_some 3 := ⟨rfl, ⟨by decide, by decide, by decide +kernel⟩, ⟨(mg 1884 (by decide +kernel) rfl), (mg 1882 (by decide +kernel) rfl), (mg 1883 (by decide +kernel) rfl), (mg 160 (by decide +kernel) rfl)⟩, Or.inl (mg 1881 (by decide +kernel) rfl)⟩
theorem mv_L_187 : LVt RL 187 RX9 M_X9_chance 3 := ⟨rfl, ⟨by decide, by decide, by decide +kernel⟩, ⟨(mg 1142 (by decide +kernel) rfl), (mg 1140 (by decide +kernel) rfl), (mg 1141 (by decide +kernel) rfl), (mg 151 (by decide +kernel) rfl)⟩, Or.inl (mg 1139 (by decide +kernel) rfl)⟩
theorem mv_L_191 : LVt RL 191 RX10 M_X10_chance 3 := ⟨rfl, ⟨by decide, by decide, by decide +kernel⟩, ⟨(mg 1858 (by decide +kernel) rfl), (mg 1856 (by decide +kernel) rfl), (mg 1857 (by decide +kernel) rfl), (mg 160 (by decide +kernel) rfl)⟩, Or.inl (mg 1855 (by decide +kernel) rfl)⟩
theorem mv_L_183 : LVt RL 183 RX9 M_X9_share 2 := ⟨rfl, ⟨by decide, by decide, by decide +kernel⟩, ⟨(mg 1129 (by decide +kernel) rfl), (mg 1127 (by decide +kernel) rfl), (mg 1128 (by decide +kernel) rfl), (mg 151 (by decide +kernel) rfl)⟩, Or.inl (mg 1126 (by decide +kernel) rfl)⟩
theorem mv_L_186 : LVt RL 186 RX10 M_X10_share 2 := ⟨rfl, ⟨by decide, by decide, by decide +kernel⟩, ⟨(mg 1850 (by decide +kernel) rfl), (mg 1848 (by decide +kernel) rfl), (mg 1849 (by decide +kernel) rfl), (mg 160 (by decide +kernel) rfl)⟩, Or.inl (mg 1847 (by decide +kernel) rfl)⟩
theorem mv_L_179 : LVt RL 179 RX9 M_X9_race 2 := ⟨rfl, ⟨by decide, by decide, by decide +kernel⟩, ⟨(mg 1121 (by decide +kernel) rfl), (mg 1119 (by decide +kernel) rfl), (mg 1120 (by decide +kernel) rfl), (mg 151 (by decide +kernel) rfl)⟩, Or.inl (mg 1118 (by decide +kernel) rfl)⟩
theorem mv_L_182 : LVt RL 182 RX10 M_X10_race 2 := ⟨rfl, ⟨by decide, by decide, by decide +kernel⟩, ⟨(mg 1842 (by decide +kernel) rfl), (mg 1840 (by decide +kernel) rfl), (mg 1841 (by decide +kernel) rfl), (mg 160 (by decide +kernel) rfl)⟩, Or.inl (mg 1839 (by decide +kernel) rfl)⟩
theorem mv_L_175 : LVt RL 175 RX9 M_X9_slow 4 := ⟨rfl, ⟨by decide, by decide, by decide +kernel⟩, ⟨(mg 1114 (by decide +kernel) rfl), (mg 1112 (by decide +kernel) rfl), (mg 1113 (by decide +kernel) rfl), (mg 151 (by decide +kernel) rfl)⟩, Or.inl (mg 1111 (by decide +kernel) rfl)⟩
theorem mv_L_178 : LVt RL 178 RX10 M_X10_slow 4 := ⟨rfl, ⟨by decide, by decide, by decide +kernel⟩, ⟨(mg 1833 (by decide +kernel) rfl), (mg 1831 (by decide +kernel) rfl), (mg 1832 (by decide +kernel) rfl), (mg 160 (by decide +kernel) rfl)⟩, Or.inl (mg 1830 (by decide +kernel) rfl)⟩
theorem mv_L_171 : LVt RL 171 RX9 M_X9_nearest 2 := ⟨rfl, ⟨by decide, by decide, by decide +kernel⟩, ⟨(mg 1110 (by decide +kernel) rfl), (mg 1108 (by decide +kernel) rfl), (mg 1109 (by decide +kernel) rfl), (mg 151 (by decide +kernel) rfl)⟩, Or.inl (mg 1107 (by decide +kernel) rfl)⟩
theorem mv_L_174 : LVt RL 174 RX10 M_X10_nearest 2 := ⟨rfl, ⟨by decide, by decide, by decide +kernel⟩, ⟨(mg 1829 (by decide +kernel) rfl), (mg 1827 (by decide +kernel) rfl), (mg 1828 (by decide +kernel) rfl), (mg 160 (by decide +kernel) rfl)⟩, Or.inl (mg 1826 (by decide +kernel) rfl)⟩
theorem mv_L_167 : LVt RL 167 RX9 M_X9_sweat 2 := ⟨rfl, ⟨by decide, by decide, by decide +kernel⟩, ⟨(mg 1106 (by decide +kernel) rfl), (mg 1104 (by decide +kernel) rfl), (mg 1105 (by decide +kernel) rfl), (mg 151 (by decide +kernel) rfl)⟩, Or.inl (mg 1103 (by decide +kernel) rfl)⟩
theorem mv_L_170 : LVt RL 170 RX10 M_X10_sweat 2 := ⟨rfl, ⟨by decide, by decide, by decide +kernel⟩, ⟨(mg 1821 (by decide +kernel) rfl), (mg 1819 (by decide +kernel) rfl), (mg 1820 (by decide +kernel) rfl), (mg 160 (by decide +kernel) rfl)⟩, Or.inl (mg 1818 (by decide +kernel) rfl)⟩
theorem mv_L_163 : LVt RL 163 RX9 M_X9_last 2 := ⟨rfl, ⟨by decide, by decide, by decide +kernel⟩, ⟨(mg 1102 (by decide +kernel) rfl), (mg 1100 (by decide +kernel) rfl), (mg 1101 (by decide +kernel) rfl), (mg 151 (by decide +kernel) rfl)⟩, Or.inl (mg 1099 (by decide +kernel) rfl)⟩
theorem mv_L_166 : LVt RL 166 RX10 M_X10_last 2 := ⟨rfl, ⟨by decide, by decide, by decide +kernel⟩, ⟨(mg 1817 (by decide +kernel) rfl), (mg 1815 (by decide +kernel) rfl), (mg 1816 (by decide +kernel) rfl), (mg 160 (by decide +kernel) rfl)⟩, Or.inl (mg 1814 (by decide +kernel) rfl)⟩
theorem mv_L_159 : LVt RL 159 RX9 M_X9_filled 3 := ⟨rfl, ⟨by decide, by decide, by decide +kernel⟩, ⟨(mg 1098 (by decide +kernel) rfl), (mg 1096 (by decide +kernel) rfl), (mg 1097 (by decide +kernel) rfl), (mg 151 (by decide +kernel) rfl)⟩, Or.inl (mg 1095 (by decide +kernel) rfl)⟩
theorem mv_L_162 : LVt RL 162 RX10 M_X10_filled 3 := ⟨rfl, ⟨by decide, by decide, by decide +kernel⟩, ⟨(mg 1813 (by decide +kernel) rfl), (mg 1811 (by decide +kernel) rfl), (mg 1812 (by decide +kernel) rfl), (mg 160 (by decide +kernel) rfl)⟩, Or.inl (mg 1810 (by decide +kernel) rfl)⟩
theorem mv_L_155 : LVt RL 155 RX9 M_X9_corners 2 := ⟨rfl, ⟨by decide, by decide, by decide +kernel⟩, ⟨(mg 1090 (by decide +kernel) rfl), (mg 1088 (by decide +kernel) rfl), (mg 1089 (by decide +kernel) rfl), (mg 151 (by decide +kernel) rfl)⟩, Or.inl (mg 1087 (by decide +kernel) rfl)⟩
theorem mv_L_158 : LVt RL 158 RX10 M_X10_corners 2 := ⟨rfl, ⟨by decide, by decide, by decide +kernel⟩, ⟨(mg 1805 (by decide +kernel) rfl), (mg 1803 (by decide +kernel) rfl), (mg 1804 (by decide +kernel) rfl), (mg 160 (by decide +kernel) rfl)⟩, Or.inl (mg 1802 (by decide +kernel) rfl)⟩
theorem mv_L_151 : LVt RL 151 RX9 M_X9_shape 2 := ⟨rfl, ⟨by decide, by decide, by decide +kernel⟩, ⟨(mg 1086 (by decide +kernel) rfl), (mg 1084 (by decide +kernel) rfl), (mg 1085 (by decide +kernel) rfl), (mg 151 (by decide +kernel) rfl)⟩, Or.inl (mg 1083 (by decide +kernel) rfl)⟩
theorem mv_L_154 : LVt RL 154 RX10 M_X10_shape 2 := ⟨rfl, ⟨by decide, by decide, by decide +kernel⟩, ⟨(mg 1801 (by decide +kernel) rfl), (mg 1799 (by decide +kernel) rfl), (mg 1800 (by decide +kernel) rfl), (mg 160 (by decide +kernel) rfl)⟩, Or.inl (mg 1798 (by decide +kernel) rfl)⟩
theorem mv_L_147 : LVt RL 147 RX9 M_X9_shaped 3 := ⟨rfl, ⟨by decide, by decide, by decide +kernel⟩, ⟨(mg 1072 (by decide +kernel) rfl), (mg 1070 (by decide +kernel) rfl), (mg 1071 (by decide +kernel) rfl), (mg 151 (by decide +kernel) rfl)⟩, Or.inl (mg 1069 (by decide +kernel) rfl)⟩
theorem mv_L_150 : LVt RL 150 RX10 M_X10_shaped 3 := ⟨rfl, ⟨by decide, by decide, by decide +kernel⟩, ⟨(mg 1783 (by decide +kernel) rfl), (mg 1781 (by decide +kernel) rfl), (mg 1782 (by decide +kernel) rfl), (mg 160 (by decide +kernel) rfl)⟩, Or.inl (mg 1780 (by decide +kernel) rfl)⟩
theorem mv_L_143 : LVt RL 143 RX9 M_X9_book 2 := ⟨rfl, ⟨by decide, by decide, by decide +kernel⟩, ⟨(mg 1063 (by decide +kernel) rfl), (mg 1061 (by decide +kernel) rfl), (mg 1062 (by decide +kernel) rfl), (mg 151 (by decide +kernel) rfl)⟩, Or.inl (mg 1060 (by decide +kernel) rfl)⟩
theorem mv_L_146 : LVt RL 146 RX10 M_X10_book 2 := ⟨rfl, ⟨by decide, by decide, by decide +kernel⟩, ⟨(mg 1774 (by decide +kernel) rfl), (mg 1772 (by decide +kernel) rfl), (mg 1773 (by decide +kernel) rfl), (mg 160 (by decide +kernel) rfl)⟩, Or.inl (mg 1771 (by decide +kernel) rfl)⟩
theorem mv_L_139 : LVt RL 139 RX9 M_X9_wins 1 := ⟨rfl, ⟨by decide, by decide, by decide +kernel⟩, ⟨(mg 1055 (by decide +kernel) rfl), (mg 1053 (by decide +kernel) rfl), (mg 1054 (by decide +kernel) rfl), (mg 151 (by decide +kernel) rfl)⟩, Or.inl (mg 1052 (by decide +kernel) rfl)⟩
theorem mv_L_142 : LVt RL 142 RX10 M_X10_wins 1 := ⟨rfl, ⟨by decide, by decide, by decide +kernel⟩, ⟨(mg 1770 (by decide +kernel) rfl), (mg 1768 (by decide +kernel) rfl), (mg 1769 (by decide +kernel) rfl), (mg 160 (by decide +kernel) rfl)⟩, Or.inl (mg 1767 (by decide +kernel) rfl)⟩
theorem mv_L_135 : LVt RL 135 RX9 M_X9_jackpot 1 := ⟨rfl, ⟨by decide, by decide, by decide +kernel⟩, ⟨(mg 1046 (by decide +kernel) rfl), (mg 1044 (by decide +kernel) rfl), (mg 1045 (by decide +kernel) rfl), (mg 151 (by decide +kernel) rfl)⟩, Or.inl (mg 1043 (by decide +kernel) rfl)⟩
theorem mv_L_138 : LVt RL 138 RX10 M_X10_jackpot 1 := ⟨rfl, ⟨by decide, by decide, by decide +kernel⟩, ⟨(mg 1762 (by decide +kernel) rfl), (mg 1760 (by decide +kernel) rfl), (mg 1761 (by decide +kernel) rfl), (mg 160 (by decide +kernel) rfl)⟩, Or.inl (mg 1759 (by decide +kernel) rfl)⟩
theorem mv_L_131 : LVt RL 131 RX9 M_X9_prize 2 := ⟨rfl, ⟨by decide, by decide, by decide +kernel⟩, ⟨(mg 1039 (by decide +kernel) rfl), (mg 1037 (by decide +kernel) rfl), (mg 1038 (by decide +kernel) rfl), (mg 151 (by decide +kernel) rfl)⟩, Or.inl (mg 1036 (by decide +kernel) rfl)⟩
theorem mv_L_134 : LVt RL 134 RX10 M_X10_prize 2 := ⟨rfl, ⟨by decide, by decide, by decide +kernel⟩, ⟨(mg 1754 (by decide +kernel) rfl), (mg 1752 (by decide +kernel) rfl), (mg 1753 (by decide +kernel) rfl), (mg 160 (by decide +kernel) rfl)⟩, Or.inl (mg 1751 (by decide +kernel) rfl)⟩
theorem mv_L_127 : LVt RL 127 RX9 M_X9_winner 2 := ⟨rfl, ⟨by decide, by decide, by decide +kernel⟩, ⟨(mg 1027 (by decide +kernel) rfl), (mg 1025 (by decide +kernel) rfl), (mg 1026 (by decide +kernel) rfl), (mg 151 (by decide +kernel) rfl)⟩, Or.inl (mg 1024 (by decide +kernel) rfl)⟩
theorem mv_L_130 : LVt RL 130 RX10 M_X10_winner 2 := ⟨rfl, ⟨by decide, by decide, by decide +kernel⟩, ⟨(mg 1746 (by decide +kernel) rfl), (mg 1744 (by decide +kernel) rfl), (mg 1745 (by decide +kernel) rfl), (mg 160 (by decide +kernel) rfl)⟩, Or.inl (mg 1743 (by decide +kernel) rfl)⟩
theorem mv_L_123 : LVt RL 123 RX9 M_X9_first 1 := ⟨rfl, ⟨by decide, by decide, by decide +kernel⟩, ⟨(mg 1011 (by decide +kernel) rfl), (mg 1009 (by decide +kernel) rfl), (mg 1010 (by decide +kernel) rfl), (mg 151 (by decide +kernel) rfl)⟩, Or.inl (mg 1008 (by decide +kernel) rfl)⟩
theorem mv_L_126 : LVt RL 126 RX10 M_X10_first_ 1 := ⟨rfl, ⟨by decide, by decide, by decide +kernel⟩, ⟨(mg 1738 (by decide +kernel) rfl), (mg 1736 (by decide +kernel) rfl), (mg 1737 (by decide +kernel) rfl), (mg 160 (by decide +kernel) rfl)⟩, Or.inl (mg 1735 (by decide +kernel) rfl)⟩
theorem mv_L_119 : LVt RL 119 RX9 M_X9_claim 4 := ⟨rfl, ⟨by decide, by decide, by decide +kernel⟩, ⟨(mg 1007 (by decide +kernel) rfl), (mg 1005 (by decide +kernel) rfl), (mg 1006 (by decide +kernel) rfl), (mg 151 (by decide +kernel) rfl)⟩, Or.inl (mg 1004 (by decide +kernel) rfl)⟩
theorem mv_L_122 : LVt RL 122 RX10 M_X10_claim 4 := ⟨rfl, ⟨by decide, by decide, by decide +kernel⟩, ⟨(mg 1734 (by decide +kernel) rfl), (mg 1732 (by decide +kernel) rfl), (mg 1733 (by decide +kernel) rfl), (mg 160 (by decide +kernel) rfl)⟩, Or.inl (mg 1731 (by decide +kernel) rfl)⟩
theorem mv_L_115 : LVt RL 115 RX9 M_X9_done 3 := ⟨rfl, ⟨by decide, by decide, by decide +kernel⟩, ⟨(mg 992 (by decide +kernel) rfl), (mg 990 (by decide +kernel) rfl), (mg 991 (by decide +kernel) rfl), (mg 151 (by decide +kernel) rfl)⟩, Or.inl (mg 989 (by decide +kernel) rfl)⟩
theorem mv_L_118 : LVt RL 118 RX10 M_X10_done 3 := ⟨rfl, ⟨by decide, by decide, by decide +kernel⟩, ⟨(mg 1726 (by decide +kernel) rfl), (mg 1724 (by decide +kernel) rfl), (mg 1725 (by decide +kernel) rfl), (mg 160 (by decide +kernel) rfl)⟩, Or.inl (mg 1723 (by decide +kernel) rfl)⟩
theorem mv_L_111 : LVt RL 111 RX9 M_X9_lacks 4 := ⟨rfl, ⟨by decide, by decide, by decide +kernel⟩, ⟨(mg 975 (by decide +kernel) rfl), (mg 973 (by decide +kernel) rfl), (mg 974 (by decide +kernel) rfl), (mg 151 (by decide +kernel) rfl)⟩, Or.inl (mg 972 (by decide +kernel) rfl)⟩
theorem mv_L_114 : LVt RL 114 RX10 M_X10_lacks 4 := ⟨rfl, ⟨by decide, by decide, by decide +kernel⟩, ⟨(mg 1714 (by decide +kernel) rfl), (mg 1712 (by decide +kernel) rfl), (mg 1713 (by decide +kernel) rfl), (mg 160 (by decide +kernel) rfl)⟩, Or.inl (mg 1711 (by decide +kernel) rfl)⟩
theorem mv_L_107 : LVt RL 107 RX9 M_X9_full 3 := ⟨rfl, ⟨by decide, by decide, by decide +kernel⟩, ⟨(mg 967 (by decide +kernel) rfl), (mg 965 (by decide +kernel) rfl), (mg 966 (by decide +kernel) rfl), (mg 151 (by decide +kernel) rfl)⟩, Or.inl (mg 964 (by decide +kernel) rfl)⟩
theorem mv_L_110 : LVt RL 110 RX10 M_X10_full 3 := ⟨rfl, ⟨by decide, by decide, by decide +kernel⟩, ⟨(mg 1710 (by decide +kernel) rfl), (mg 1708 (by decide +kernel) rfl), (mg 1709 (by decide +kernel) rfl), (mg 160 (by decide +kernel) rfl)⟩, Or.inl (mg 1707 (by decide +kernel) rfl)⟩
theorem mv_L_103 : LVt RL 103 RX9 M_X9_daubs 3 := ⟨rfl, ⟨by decide, by decide, by decide +kernel⟩, ⟨(mg 938 (by decide +kernel) rfl), (mg 936 (by decide +kernel) rfl), (mg 937 (by decide +kernel) rfl), (mg 151 (by decide +kernel) rfl)⟩, Or.inl (mg 935 (by decide +kernel) rfl)⟩
theorem mv_L_106 : LVt RL 106 RX10 M_X10_daubs 3 := ⟨rfl, ⟨by decide, by decide, by decide +kernel⟩, ⟨(mg 1698 (by decide +kernel) rfl), (mg 1696 (by decide +kernel) rfl), (mg 1697 (by decide +kernel) rfl), (mg 160 (by decide +kernel) rfl)⟩, Or.inl (mg 1695 (by decide +kernel) rfl)⟩
theorem mv_L_99 : LVt RL 99 RX9 M_X9_called 1 := ⟨rfl, ⟨by decide, by decide, by decide +kernel⟩, ⟨(mg 934 (by decide +kernel) rfl), (mg 932 (by decide +kernel) rfl), (mg 933 (by decide +kernel) rfl), (mg 151 (by decide +kernel) rfl)⟩, Or.inl (mg 931 (by decide +kernel) rfl)⟩
theorem mv_L_102 : LVt RL 102 RX10 M_X10_called 1 := ⟨rfl, ⟨by decide, by decide, by decide +kernel⟩, ⟨(mg 1690 (by decide +kernel) rfl), (mg 1688 (by decide +kernel) rfl), (mg 1689 (by decide +kernel) rfl), (mg 160 (by decide +kernel) rfl)⟩, Or.inl (mg 1687 (by decide +kernel) rfl)⟩
theorem mv_L_95 : LVt RL 95 RX9 M_X9_call 1 := ⟨rfl, ⟨by decide, by decide, by decide +kernel⟩, ⟨(mg 930 (by decide +kernel) rfl), (mg 928 (by decide +kernel) rfl), (mg 929 (by decide +kernel) rfl), (mg 151 (by decide +kernel) rfl)⟩, Or.inl (mg 927 (by decide +kernel) rfl)⟩
theorem mv_L_98 : LVt RL 98 RX10 M_X10_call 1 := ⟨rfl, ⟨by decide, by decide, by decide +kernel⟩, ⟨(mg 1686 (by decide +kernel) rfl), (mg 1684 (by decide +kernel) rfl), (mg 1685 (by decide +kernel) rfl), (mg 160 (by decide +kernel) rfl)⟩, Or.inl (mg 1683 (by decide +kernel) rfl)⟩
theorem mv_L_91 : LVt RL 91 RX9 M_X9_calls 1 := ⟨rfl, ⟨by decide, by decide, by decide +kernel⟩, ⟨(mg 922 (by decide +kernel) rfl), (mg 920 (by decide +kernel) rfl), (mg 921 (by decide +kernel) rfl), (mg 151 (by decide +kernel) rfl)⟩, Or.inl (mg 919 (by decide +kernel) rfl)⟩
theorem mv_L_94 : LVt RL 94 RX10 M_X10_calls 1 := ⟨rfl, ⟨by decide, by decide, by decide +kernel⟩, ⟨(mg 1682 (by decide +kernel) rfl), (mg 1680 (by decide +kernel) rfl), (mg 1681 (by decide +kernel) rfl), (mg 160 (by decide +kernel) rfl)⟩, Or.inl (mg 1679 (by decide +kernel) rfl)⟩
theorem mv_L_87 : LVt RL 87 RX9 M_X9_caller 1 := ⟨rfl, ⟨by decide, by decide, by decide +kernel⟩, ⟨(mg 917 (by decide +kernel) rfl), (mg 915 (by decide +kernel) rfl), (mg 916 (by decide +kernel) rfl), (mg 151 (by decide +kernel) rfl)⟩, Or.inl (mg 914 (by decide +kernel) rfl)⟩
theorem mv_L_90 : LVt RL 90 RX10 M_X10_caller 1 := ⟨rfl, ⟨by decide, by decide, by decide +kernel⟩, ⟨(mg 1677 (by decide +kernel) rfl), (mg 1675 (by decide +kernel) rfl), (mg 1676 (by decide +kernel) rfl), (mg 160 (by decide +kernel) rfl)⟩, Or.inl (mg 1674 (by decide +kernel) rfl)⟩
theorem mv_L_83 : LVt RL 83 RX9 M_X9_sold 1 := ⟨rfl, ⟨by decide, by decide, by decide +kernel⟩, ⟨(mg 909 (by decide +kernel) rfl), (mg 907 (by decide +kernel) rfl), (mg 908 (by decide +kernel) rfl), (mg 151 (by decide +kernel) rfl)⟩, Or.inl (mg 906 (by decide +kernel) rfl)⟩
theorem mv_L_86 : LVt RL 86 RX10 M_X10_sold 1 := ⟨rfl, ⟨by decide, by decide, by decide +kernel⟩, ⟨(mg 1673 (by decide +kernel) rfl), (mg 1671 (by decide +kernel) rfl), (mg 1672 (by decide +kernel) rfl), (mg 160 (by decide +kernel) rfl)⟩, Or.inl (mg 1670 (by decide +kernel) rfl)⟩
theorem mv_L_79 : LVt RL 79 RX9 M_X9_unsell 0 := ⟨rfl, ⟨by decide, by decide, by decide +kernel⟩, ⟨(mg 905 (by decide +kernel) rfl), (mg 903 (by decide +kernel) rfl), (mg 904 (by decide +kernel) rfl), (mg 151 (by decide +kernel) rfl)⟩, Or.inl (mg 902 (by decide +kernel) rfl)⟩
theorem mv_L_82 : LVt RL 82 RX10 M_X10_unsell 0 := ⟨rfl, ⟨by decide, by decide, by decide +kernel⟩, ⟨(mg 1669 (by decide +kernel) rfl), (mg 1667 (by decide +kernel) rfl), (mg 1668 (by decide +kernel) rfl), (mg 160 (by decide +kernel) rfl)⟩, Or.inl (mg 1666 (by decide +kernel) rfl)⟩
theorem mv_L_75 : LVt RL 75 RX9 M_X9_sell 1 := ⟨rfl, ⟨by decide, by decide, by decide +kernel⟩, ⟨(mg 899 (by decide +kernel) rfl), (mg 897 (by decide +kernel) rfl), (mg 898 (by decide +kernel) rfl), (mg 151 (by decide +kernel) rfl)⟩, Or.inl (mg 896 (by decide +kernel) rfl)⟩
theorem mv_L_78 : LVt RL 78 RX10 M_X10_sell 1 := ⟨rfl, ⟨by decide, by decide, by decide +kernel⟩, ⟨(mg 1665 (by decide +kernel) rfl), (mg 1663 (by decide +kernel) rfl), (mg 1664 (by decide +kernel) rfl), (mg 160 (by decide +kernel) rfl)⟩, Or.inl (mg 1662 (by decide +kernel) rfl)⟩
theorem mv_L_71 : LVt RL 71 RX9 M_X9_alike 4 := ⟨rfl, ⟨by decide, by decide, by decide +kernel⟩, ⟨(mg 884 (by decide +kernel) rfl), (mg 882 (by decide +kernel) rfl), (mg 883 (by decide +kernel) rfl), (mg 151 (by decide +kernel) rfl)⟩, Or.inl (mg 881 (by decide +kernel) rfl)⟩
theorem mv_L_74 : LVt RL 74 RX10 M_X10_alike 4 := ⟨rfl, ⟨by decide, by decide, by decide +kernel⟩, ⟨(mg 1661 (by decide +kernel) rfl), (mg 1659 (by decide +kernel) rfl), (mg 1660 (by decide +kernel) rfl), (mg 160 (by decide +kernel) rfl)⟩, Or.inl (mg 1658 (by decide +kernel) rfl)⟩
theorem mv_L_67 : LVt RL 67 RX9 M_X9_same 2 := ⟨rfl, ⟨by decide, by decide, by decide +kernel⟩, ⟨(mg 879 (by decide +kernel) rfl), (mg 877 (by decide +kernel) rfl), (mg 878 (by decide +kernel) rfl), (mg 151 (by decide +kernel) rfl)⟩, Or.inl (mg 876 (by decide +kernel) rfl)⟩
theorem mv_L_70 : LVt RL 70 RX10 M_X10_same 2 := ⟨rfl, ⟨by decide, by decide, by decide +kernel⟩, ⟨(mg 1657 (by decide +kernel) rfl), (mg 1655 (by decide +kernel) rfl), (mg 1656 (by decide +kernel) rfl), (mg 160 (by decide +kernel) rfl)⟩, Or.inl (mg 1654 (by decide +kernel) rfl)⟩
theorem mv_L_63 : LVt RL 63 RX9 M_X9_where 2 := ⟨rfl, ⟨by decide, by decide, by decide +kernel⟩, ⟨(mg 871 (by decide +kernel) rfl), (mg 869 (by decide +kernel) rfl), (mg 870 (by decide +kernel) rfl), (mg 151 (by decide +kernel) rfl)⟩, Or.inl (mg 868 (by decide +kernel) rfl)⟩
theorem mv_L_66 : LVt RL 66 RX10 M_X10_where 2 := ⟨rfl, ⟨by decide, by decide, by decide +kernel⟩, ⟨(mg 1649 (by decide +kernel) rfl), (mg 1647 (by decide +kernel) rfl), (mg 1648 (by decide +kernel) rfl), (mg 160 (by decide +kernel) rfl)⟩, Or.inl (mg 1646 (by decide +kernel) rfl)⟩
theorem mv_L_58 : LVt RL 58 RX9 M_X9_cell 4 := ⟨rfl, ⟨by decide, by decide, by decide +kernel⟩, ⟨(mg 865 (by decide +kernel) rfl), (mg 863 (by decide +kernel) rfl), (mg 864 (by decide +kernel) rfl), (mg 151 (by decide +kernel) rfl)⟩, Or.inl (mg 862 (by decide +kernel) rfl)⟩
theorem mv_L_62 : LVt RL 62 RX10 M_X10_cell 4 := ⟨rfl, ⟨by decide, by decide, by decide +kernel⟩, ⟨(mg 1645 (by decide +kernel) rfl), (mg 1643 (by decide +kernel) rfl), (mg 1644 (by decide +kernel) rfl), (mg 160 (by decide +kernel) rfl)⟩, Or.inl (mg 1642 (by decide +kernel) rfl)⟩
theorem mv_L_54 : LVt RL 54 RX9 M_X9_made 1 := ⟨rfl, ⟨by decide, by decide, by decide +kernel⟩, ⟨(mg 856 (by decide +kernel) rfl), (mg 854 (by decide +kernel) rfl), (mg 855 (by decide +kernel) rfl), (mg 151 (by decide +kernel) rfl)⟩, Or.inl (mg 853 (by decide +kernel) rfl)⟩
theorem mv_L_57 : LVt RL 57 RX10 M_X10_made 1 := ⟨rfl, ⟨by decide, by decide, by decide +kernel⟩, ⟨(mg 1636 (by decide +kernel) rfl), (mg 1634 (by decide +kernel) rfl), (mg 1635 (by decide +kernel) rfl), (mg 160 (by decide +kernel) rfl)⟩, Or.inl (mg 1633 (by decide +kernel) rfl)⟩
theorem mv_L_50 : LVt RL 50 RX9 M_X9_layouts 1 := ⟨rfl, ⟨by decide, by decide, by decide +kernel⟩, ⟨(mg 827 (by decide +kernel) rfl), (mg 825 (by decide +kernel) rfl), (mg 826 (by decide +kernel) rfl), (mg 151 (by decide +kernel) rfl)⟩, Or.inl (mg 824 (by decide +kernel) rfl)⟩
theorem mv_L_53 : LVt RL 53 RX10 M_X10_layouts_ 1 := ⟨rfl, ⟨by decide, by decide, by decide +kernel⟩, ⟨(mg 1628 (by decide +kernel) rfl), (mg 1626 (by decide +kernel) rfl), (mg 1627 (by decide +kernel) rfl), (mg 160 (by decide +kernel) rfl)⟩, Or.inl (mg 1625 (by decide +kernel) rfl)⟩
theorem mv_L_45 : LVt RL 45 RX9 M_X9_plan 3 := ⟨rfl, ⟨by decide, by decide, by decide +kernel⟩, ⟨(mg 815 (by decide +kernel) rfl), (mg 813 (by decide +kernel) rfl), (mg 814 (by decide +kernel) rfl), (mg 151 (by decide +kernel) rfl)⟩, Or.inl (mg 812 (by decide +kernel) rfl)⟩
theorem mv_L_49 : LVt RL 49 RX10 M_X10_plan 3 := ⟨rfl, ⟨by decide, by decide, by decide +kernel⟩, ⟨(mg 1620 (by decide +kernel) rfl), (mg 1618 (by decide +kernel) rfl), (mg 1619 (by decide +kernel) rfl), (mg 160 (by decide +kernel) rfl)⟩, Or.inl (mg 1617 (by decide +kernel) rfl)⟩
theorem mv_L_41 : LVt RL 41 RX9 M_X9_plans 0 := ⟨rfl, ⟨by decide, by decide, by decide +kernel⟩, ⟨(mg 811 (by decide +kernel) rfl), (mg 809 (by decide +kernel) rfl), (mg 810 (by decide +kernel) rfl), (mg 151 (by decide +kernel) rfl)⟩, Or.inl (mg 808 (by decide +kernel) rfl)⟩
theorem mv_L_44 : LVt RL 44 RX10 M_X10_plans_ 0 := ⟨rfl, ⟨by decide, by decide, by decide +kernel⟩, ⟨(mg 1616 (by decide +kernel) rfl), (mg 1614 (by decide +kernel) rfl), (mg 1615 (by decide +kernel) rfl), (mg 160 (by decide +kernel) rfl)⟩, Or.inl (mg 1613 (by decide +kernel) rfl)⟩
theorem mv_L_37 : LVt RL 37 RX9 M_X9_numbers 0 := ⟨rfl, ⟨by decide, by decide, by decide +kernel⟩, ⟨(mg 807 (by decide +kernel) rfl), (mg 805 (by decide +kernel) rfl), (mg 806 (by decide +kernel) rfl), (mg 151 (by decide +kernel) rfl)⟩, Or.inl (mg 804 (by decide +kernel) rfl)⟩
theorem mv_L_40 : LVt RL 40 RX10 M_X10_numbers 0 := ⟨rfl, ⟨by decide, by decide, by decide +kernel⟩, ⟨(mg 1604 (by decide +kernel) rfl), (mg 1602 (by decide +kernel) rfl), (mg 1603 (by decide +kernel) rfl), (mg 160 (by decide +kernel) rfl)⟩, Or.inl (mg 1601 (by decide +kernel) rfl)⟩
theorem mv_L_32 : LVt RL 32 RX9 M_X9_column 2 := ⟨rfl, ⟨by decide, by decide, by decide +kernel⟩, ⟨(mg 795 (by decide +kernel) rfl), (mg 793 (by decide +kernel) rfl), (mg 794 (by decide +kernel) rfl), (mg 151 (by decide +kernel) rfl)⟩, Or.inl (mg 792 (by decide +kernel) rfl)⟩
theorem mv_L_36 : LVt RL 36 RX10 M_X10_column 2 := ⟨rfl, ⟨by decide, by decide, by decide +kernel⟩, ⟨(mg 1596 (by decide +kernel) rfl), (mg 1594 (by decide +kernel) rfl), (mg 1595 (by decide +kernel) rfl), (mg 160 (by decide +kernel) rfl)⟩, Or.inl (mg 1593 (by decide +kernel) rfl)⟩
theorem mv_L_28 : LVt RL 28 RX9 M_X9_fault 1 := ⟨rfl, ⟨by decide, by decide, by decide +kernel⟩, ⟨(mg 791 (by decide +kernel) rfl), (mg 789 (by decide +kernel) rfl), (mg 790 (by decide +kernel) rfl), (mg 151 (by decide +kernel) rfl)⟩, Or.inl (mg 788 (by decide +kernel) rfl)⟩
theorem mv_L_31 : LVt RL 31 RX10 M_X10_fault 1 := ⟨rfl, ⟨by decide, by decide, by decide +kernel⟩, ⟨(mg 1429 (by decide +kernel) rfl), (mg 1427 (by decide +kernel) rfl), (mg 1428 (by decide +kernel) rfl), (mg 160 (by decide +kernel) rfl)⟩, Or.inl (mg 1426 (by decide +kernel) rfl)⟩
theorem mv_L_23 : LVt RL 23 RX9 M_X9_hall 0 := ⟨rfl, ⟨by decide, by decide, by decide +kernel⟩, ⟨(mg 515 (by decide +kernel) rfl), (mg 513 (by decide +kernel) rfl), (mg 514 (by decide +kernel) rfl), (mg 151 (by decide +kernel) rfl)⟩, Or.inl (mg 512 (by decide +kernel) rfl)⟩
theorem mv_L_27 : LVt RL 27 RX10 M_X10_hall 0 := ⟨rfl, ⟨by decide, by decide, by decide +kernel⟩, ⟨(mg 1433 (by decide +kernel) rfl), (mg 1431 (by decide +kernel) rfl), (mg 1432 (by decide +kernel) rfl), (mg 160 (by decide +kernel) rfl)⟩, Or.inl (mg 1430 (by decide +kernel) rfl)⟩
theorem mv_L_18 : LVt RL 18 RX9 M_X9_end 1 := ⟨rfl, ⟨by decide, by decide, by decide +kernel⟩, ⟨(mg 511 (by decide +kernel) rfl), (mg 509 (by decide +kernel) rfl), (mg 510 (by decide +kernel) rfl), (mg 151 (by decide +kernel) rfl)⟩, Or.inl (mg 508 (by decide +kernel) rfl)⟩
theorem mv_L_22 : LVt RL 22 RX10 M_X10_end 1 := ⟨rfl, ⟨by decide, by decide, by decide +kernel⟩, ⟨(mg 1425 (by decide +kernel) rfl), (mg 1423 (by decide +kernel) rfl), (mg 1424 (by decide +kernel) rfl), (mg 160 (by decide +kernel) rfl)⟩, Or.inl (mg 1422 (by decide +kernel) rfl)⟩
theorem mv_L_13 : LVt RL 13 RX9 M_X9_feed 5 := ⟨rfl, ⟨by decide, by decide, by decide +kernel⟩, ⟨(mg 503 (by decide +kernel) rfl), (mg 501 (by decide +kernel) rfl), (mg 502 (by decide +kernel) rfl), (mg 151 (by decide +kernel) rfl)⟩, Or.inl (mg 500 (by decide +kernel) rfl)⟩
theorem mv_L_17 : LVt RL 17 RX10 M_X10_feed 5 := ⟨rfl, ⟨by decide, by decide, by decide +kernel⟩, ⟨(mg 1417 (by decide +kernel) rfl), (mg 1415 (by decide +kernel) rfl), (mg 1416 (by decide +kernel) rfl), (mg 160 (by decide +kernel) rfl)⟩, Or.inl (mg 1414 (by decide +kernel) rfl)⟩
