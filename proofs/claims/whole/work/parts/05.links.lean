/-! method frames and links -/
theorem sh60 : shp 60 = (0, 8, [(2, 0), (2, 6), (2, 61), (2, 62), (2, 63), (2, 65), (2, 68), (2, 71), (2, 76), (2, 81), (2, 84), (2, 85), (2, 86)]) := rfl
theorem sh61 : shp 61 = (4, 2, [(12, 0)]) := rfl
theorem sh62 : shp 62 = (2, 2, []) := rfl
theorem sh63 : shp 63 = (0, 2, [(2, 64), (0, 0), (0, 0)]) := rfl
theorem sh64 : shp 64 = (4, 6, [(24, 0)]) := rfl
theorem sh65 : shp 65 = (0, 7, [(2, 66), (2, 67), (0, 0), (0, 0), (0, 0), (0, 0), (5, 0)]) := rfl
theorem sh66 : shp 66 = (1, 160, []) := rfl
theorem sh67 : shp 67 = (1, 5, []) := rfl
theorem sh68 : shp 68 = (0, 4, [(2, 69), (2, 70), (0, 0)]) := rfl
theorem sh69 : shp 69 = (1, 6, []) := rfl
theorem sh70 : shp 70 = (1, 6, []) := rfl
theorem sh71 : shp 71 = (0, 1, [(2, 72), (2, 73), (2, 74), (2, 75)]) := rfl
theorem sh72 : shp 72 = (1, 32, []) := rfl
theorem sh73 : shp 73 = (1, 16, []) := rfl
theorem sh74 : shp 74 = (1, 97, []) := rfl
theorem sh75 : shp 75 = (0, 3, [(0, 0), (0, 0), (0, 0), (0, 0)]) := rfl
theorem sh76 : shp 76 = (0, 1, [(2, 77), (2, 78), (2, 79), (2, 80)]) := rfl
theorem sh77 : shp 77 = (1, 32, []) := rfl
theorem sh78 : shp 78 = (1, 16, []) := rfl
theorem sh79 : shp 79 = (1, 97, []) := rfl
theorem sh80 : shp 80 = (0, 3, [(0, 0), (0, 0), (0, 0), (0, 0)]) := rfl
theorem sh81 : shp 81 = (0, 0, [(2, 82), (2, 83), (0, 0)]) := rfl
theorem sh82 : shp 82 = (1, 4, []) := rfl
theorem sh83 : shp 83 = (1, 4, []) := rfl
theorem sh84 : shp 84 = (1, 5, []) := rfl
theorem sh85 : shp 85 = (0, 3, [(0, 0), (0, 0), (0, 0), (0, 0)]) := rfl
theorem sh86 : shp 86 = (0, 3, [(0, 0), (0, 0), (0, 0), (0, 0)]) := rfl
theorem sh87 : shp 87 = (0, 9, [(2, 88), (1, 0), (2, 89), (2, 90), (0, 0), (2, 91), (2, 92), (2, 93), (2, 94), (0, 0), (2, 95), (0, 0), (0, 0), (0, 0), (0, 0), (0, 0), (5, 0), (2, 96), (2, 97), (0, 0), (0, 0), (2, 98), (2, 99), (2, 100), (0, 0), (2, 101), (2, 102), (0, 0), (2, 103), (2, 104)]) := rfl
theorem sh88 : shp 88 = (1, 86, []) := rfl
theorem sh89 : shp 89 = (1, 516, []) := rfl
theorem sh90 : shp 90 = (3, 6, []) := rfl
theorem sh91 : shp 91 = (1, 172, []) := rfl
theorem sh92 : shp 92 = (3, 2, []) := rfl
theorem sh93 : shp 93 = (2, 2, []) := rfl
theorem sh94 : shp 94 = (1, 160, []) := rfl
theorem sh95 : shp 95 = (1, 86, []) := rfl
theorem sh96 : shp 96 = (1, 32, []) := rfl
theorem sh97 : shp 97 = (1, 32, []) := rfl
theorem sh98 : shp 98 = (1, 4, []) := rfl
theorem sh99 : shp 99 = (1, 4, []) := rfl
theorem sh100 : shp 100 = (1, 4, []) := rfl
theorem sh101 : shp 101 = (1, 20, []) := rfl
theorem sh102 : shp 102 = (1, 32, []) := rfl
theorem sh103 : shp 103 = (1, 6, []) := rfl
theorem sh104 : shp 104 = (1, 6, []) := rfl
abbrev mdX10_init : MD := (yX10_init, RX10, cX10_init, 2, none, 4)
abbrev mdX10_type : MD := (yX10_type, RX10, cX10_type, 2, (some .int), 1)
abbrev mdX10_clear : MD := (yX10_clear, RX10, cX10_clear, 2, (some .int), 0)
abbrev mdX10_block : MD := (yX10_block, RX10, cX10_block, 2, (some .int), 6)
abbrev mdX10_sends : MD := (yX10_sends, RX10, cX10_sends, 5, (some .int), 4)
abbrev mdX10_marks : MD := (yX10_marks, RX10, cX10_marks, 3, (some .int), 4)
abbrev mdX10_adds : MD := (yX10_adds, RX10, cX10_adds, 6, (some .int), 5)
abbrev mdX10_cuts : MD := (yX10_cuts, RX10, cX10_cuts, 2, (some .int), 4)
abbrev mdX10_stages : MD := (yX10_stages, RX10, cX10_stages, 6, (some .int), 5)
abbrev mdX10_drops : MD := (yX10_drops, RX10, cX10_drops, 3, (some .int), 4)
abbrev mdX10_learns : MD := (yX10_learns, RX10, cX10_learns, 3, (some .int), 6)
abbrev mdX10_orders : MD := (yX10_orders, RX10, cX10_orders, 2, (some .int), 6)
abbrev mdX10_hears : MD := (yX10_hears, RX10, cX10_hears, 2, (some .int), 6)
abbrev mdX10_undo : MD := (yX10_undo, RX10, cX10_undo, 1, (some .int), 4)
abbrev mdX10_at : MD := (yX10_at, RX10, cX10_at, 6, (some .int), 5)
abbrev mdX10_deed : MD := (yX10_deed, RX10, cX10_deed, 3, (some .int), 1)
abbrev mdX10_stage : MD := (yX10_stage, RX10, cX10_stage, 3, (some .int), 1)
abbrev mdX10_wrong : MD := (yX10_wrong, RX10, cX10_wrong, 2, (some .int), 6)
abbrev mdX10_loss : MD := (yX10_loss, RX10, cX10_loss, 1, (some .int), 0)
abbrev mdX10_taps : MD := (yX10_taps, RX10, cX10_taps, 4, (some .int), 6)
abbrev mdX10_skew : MD := (yX10_skew, RX10, cX10_skew, 5, (some .int), 5)
abbrev mdX10_spreads : MD := (yX10_spreads, RX10, cX10_spreads, 5, (some .int), 5)
abbrev mdX10_order : MD := (yX10_order, RX10, cX10_order, 3, (some .int), 6)
abbrev mdX10_lag : MD := (yX10_lag, RX10, cX10_lag, 3, (some .int), 1)
abbrev mdX10_sees : MD := (yX10_sees, RX10, cX10_sees, 4, (some .int), 2)
abbrev mdX10_forget : MD := (yX10_forget, RX10, cX10_forget, 2, (some .int), 0)
abbrev mdX10_fits : MD := (yX10_fits, RX10, cX10_fits, 6, (some .int), 5)
abbrev mdX10_odds : MD := (yX10_odds, RX10, cX10_odds, 8, (some .int), 2)
abbrev mdX10_keep : MD := (yX10_keep, RX10, cX10_keep, 2, (some .int), 3)
abbrev mdX10_back : MD := (yX10_back, RX10, cX10_back, 2, (some .int), 3)
abbrev mdX10_count : MD := (yX10_count, RX10, cX10_count, 2, (some .int), 6)
abbrev mdX10_isPlace : MD := (yX10_isPlace, RX10, cX10_isPlace, 1, (some .boolean), 0)
abbrev mdX10_isSpot : MD := (yX10_isSpot, RX10, cX10_isSpot, 2, (some .boolean), 1)
abbrev mdX10_isSymbol : MD := (yX10_isSymbol, RX10, cX10_isSymbol, 1, (some .boolean), 0)
abbrev mdX10_isPair : MD := (yX10_isPair, RX10, cX10_isPair, 2, (some .boolean), 1)
abbrev mdX10_putStep : MD := (yX10_putStep, RX10, cX10_putStep, 6, none, 0)
abbrev mdX10_appendStep : MD := (yX10_appendStep, RX10, cX10_appendStep, 2, (some .int), 4)
abbrev mdX10_errorsAfter : MD := (yX10_errorsAfter, RX10, cX10_errorsAfter, 2, (some .int), 5)
abbrev mdX10_unspreadFits : MD := (yX10_unspreadFits, RX10, cX10_unspreadFits, 2, (some .boolean), 3)
abbrev mdX10_slipFits : MD := (yX10_slipFits, RX10, cX10_slipFits, 4, (some .boolean), 4)
abbrev mdX10_findTaps : MD := (yX10_findTaps, RX10, cX10_findTaps, 5, (some .boolean), 5)
abbrev mdX10_findBestOrder : MD := (yX10_findBestOrder, RX10, cX10_findBestOrder, 4, (some .int), 5)
abbrev mdX10_errorsInOrder : MD := (yX10_errorsInOrder, RX10, cX10_errorsInOrder, 3, (some .int), 4)
abbrev mdX11_init : MD := (yX11_init, RX11, cX11_init, 1, none, 1)
abbrev mdX11_in : MD := (yX11_in, RX11, cX11_in, 3, (some .boolean), 0)
abbrev mdX11_has : MD := (yX11_has, RX11, cX11_has, 2, (some .boolean), 0)
abbrev mdX11_left : MD := (yX11_left, RX11, cX11_left, 1, (some .int), 0)
abbrev mdX11_power : MD := (yX11_power, RX11, cX11_power, 4, (some .int), 0)
abbrev mdX11_inverse : MD := (yX11_inverse, RX11, cX11_inverse, 1, (some .int), 1)
abbrev mdX11_light : MD := (yX11_light, RX11, cX11_light, 1, (some .int), 0)
abbrev mdX11_decided : MD := (yX11_decided, RX11, cX11_decided, 7, (some .int), 1)
abbrev mdX11_note : MD := (yX11_note, RX11, cX11_note, 2, none, 0)
abbrev mdX11_undo : MD := (yX11_undo, RX11, cX11_undo, 2, (some .int), 0)
abbrev mdX11_mayBe : MD := (yX11_mayBe, RX11, cX11_mayBe, 6, (some .boolean), 1)
abbrev mdX11_isDeed : MD := (yX11_isDeed, RX11, cX11_isDeed, 5, (some .boolean), 2)
abbrev mdX11_isStage : MD := (yX11_isStage, RX11, cX11_isStage, 5, (some .boolean), 3)
abbrev mdX11_type : MD := (yX11_type, RX11, cX11_type, 2, (some .int), 1)
abbrev mdX11_clear : MD := (yX11_clear, RX11, cX11_clear, 2, (some .int), 0)
abbrev mdX11_next : MD := (yX11_next, RX11, cX11_next, 2, none, 1)
abbrev mdX11_must : MD := (yX11_must, RX11, cX11_must, 2, none, 2)
abbrev mdX11_readRow : MD := (yX11_readRow, RX11, cX11_readRow, 3, none, 3)
abbrev mdX11_readMarks : MD := (yX11_readMarks, RX11, cX11_readMarks, 1, none, 3)
abbrev mdX11_readDeed : MD := (yX11_readDeed, RX11, cX11_readDeed, 3, none, 3)
abbrev mdX11_readItem : MD := (yX11_readItem, RX11, cX11_readItem, 3, none, 4)
abbrev mdX11_block : MD := (yX11_block, RX11, cX11_block, 3, (some .int), 5)
abbrev mdX11_sends : MD := (yX11_sends, RX11, cX11_sends, 5, (some .int), 1)
abbrev mdX11_marksMany : MD := (yX11_marksMany, RX11, cX11_marksMany, 3, (some .int), 0)
abbrev mdX11_marks : MD := (yX11_marks, RX11, cX11_marks, 3, (some .int), 1)
abbrev mdX11_lay : MD := (yX11_lay, RX11, cX11_lay, 7, none, 0)
abbrev mdX11_adds : MD := (yX11_adds, RX11, cX11_adds, 6, (some .int), 3)
abbrev mdX11_cuts : MD := (yX11_cuts, RX11, cX11_cuts, 1, (some .int), 1)
abbrev mdX11_takeMade : MD := (yX11_takeMade, RX11, cX11_takeMade, 2, none, 0)
abbrev mdX11_spread : MD := (yX11_spread, RX11, cX11_spread, 4, none, 1)
abbrev mdX11_unspread : MD := (yX11_unspread, RX11, cX11_unspread, 8, none, 2)
abbrev mdX11_twist : MD := (yX11_twist, RX11, cX11_twist, 8, none, 0)
abbrev mdX11_untwist : MD := (yX11_untwist, RX11, cX11_untwist, 6, none, 2)
abbrev mdX11_slip : MD := (yX11_slip, RX11, cX11_slip, 4, none, 1)
abbrev mdX11_late : MD := (yX11_late, RX11, cX11_late, 3, none, 1)
abbrev mdX11_isLight : MD := (yX11_isLight, RX11, cX11_isLight, 1, (some .boolean), 0)
abbrev mdX11_blind : MD := (yX11_blind, RX11, cX11_blind, 6, none, 1)
abbrev mdX11_mend : MD := (yX11_mend, RX11, cX11_mend, 6, none, 2)
abbrev mdX11_mendFrom : MD := (yX11_mendFrom, RX11, cX11_mendFrom, 5, none, 1)
abbrev mdX11_doDeed : MD := (yX11_doDeed, RX11, cX11_doDeed, 4, none, 2)
abbrev mdX11_doStage : MD := (yX11_doStage, RX11, cX11_doStage, 2, none, 3)
abbrev mdX11_layAir : MD := (yX11_layAir, RX11, cX11_layAir, 2, none, 3)
abbrev mdX11_goThrough : MD := (yX11_goThrough, RX11, cX11_goThrough, 3, none, 4)
abbrev mdX11_layReceived : MD := (yX11_layReceived, RX11, cX11_layReceived, 1, none, 5)
abbrev mdX11_wrongNow : MD := (yX11_wrongNow, RX11, cX11_wrongNow, 3, (some .int), 2)
abbrev mdX11_wrongAtMarks : MD := (yX11_wrongAtMarks, RX11, cX11_wrongAtMarks, 3, (some .int), 2)
abbrev mdX11_wrongReceived : MD := (yX11_wrongReceived, RX11, cX11_wrongReceived, 1, (some .int), 6)
abbrev mdX11_stages : MD := (yX11_stages, RX11, cX11_stages, 6, (some .int), 4)
abbrev mdX11_drops : MD := (yX11_drops, RX11, cX11_drops, 3, (some .int), 1)
abbrev mdX11_findTaps : MD := (yX11_findTaps, RX11, cX11_findTaps, 7, (some .boolean), 2)
abbrev mdX11_areTaps : MD := (yX11_areTaps, RX11, cX11_areTaps, 4, (some .boolean), 6)
abbrev mdX11_arePlaces : MD := (yX11_arePlaces, RX11, cX11_arePlaces, 2, (some .boolean), 1)
abbrev mdX11_learns : MD := (yX11_learns, RX11, cX11_learns, 4, (some .int), 7)
abbrev mdX11_taps : MD := (yX11_taps, RX11, cX11_taps, 4, (some .int), 7)
abbrev mdX11_turnsOn : MD := (yX11_turnsOn, RX11, cX11_turnsOn, 6, (some .boolean), 1)
abbrev mdX11_swap : MD := (yX11_swap, RX11, cX11_swap, 4, none, 0)
abbrev mdX11_findOrder : MD := (yX11_findOrder, RX11, cX11_findOrder, 5, none, 4)
abbrev mdX11_order : MD := (yX11_order, RX11, cX11_order, 2, (some .int), 5)
abbrev mdX11_orders : MD := (yX11_orders, RX11, cX11_orders, 3, (some .int), 5)
abbrev mdX11_hears : MD := (yX11_hears, RX11, cX11_hears, 2, (some .int), 7)
abbrev mdX11_at : MD := (yX11_at, RX11, cX11_at, 5, (some .int), 5)
abbrev mdX11_deed : MD := (yX11_deed, RX11, cX11_deed, 3, (some .int), 1)
abbrev mdX11_stage : MD := (yX11_stage, RX11, cX11_stage, 3, (some .int), 1)
abbrev mdX11_wrong : MD := (yX11_wrong, RX11, cX11_wrong, 2, (some .int), 5)
abbrev mdX11_loss : MD := (yX11_loss, RX11, cX11_loss, 1, (some .int), 0)
abbrev mdX11_keepReceived : MD := (yX11_keepReceived, RX11, cX11_keepReceived, 2, none, 6)
abbrev mdX11_layKept : MD := (yX11_layKept, RX11, cX11_layKept, 2, none, 0)
abbrev mdX11_skew : MD := (yX11_skew, RX11, cX11_skew, 5, (some .int), 7)
abbrev mdX11_spreads : MD := (yX11_spreads, RX11, cX11_spreads, 5, (some .int), 7)
abbrev mdX11_lag : MD := (yX11_lag, RX11, cX11_lag, 3, (some .int), 1)
abbrev mdX11_sees : MD := (yX11_sees, RX11, cX11_sees, 4, (some .int), 1)
abbrev mdX11_forget : MD := (yX11_forget, RX11, cX11_forget, 2, (some .int), 0)
abbrev mdX11_isSeenBy : MD := (yX11_isSeenBy, RX11, cX11_isSeenBy, 5, (some .boolean), 5)
abbrev mdX11_fits : MD := (yX11_fits, RX11, cX11_fits, 6, (some .int), 6)
abbrev mdX11_odds : MD := (yX11_odds, RX11, cX11_odds, 11, (some .int), 1)
abbrev mdX11_keep : MD := (yX11_keep, RX11, cX11_keep, 3, (some .int), 1)
abbrev mdX11_back : MD := (yX11_back, RX11, cX11_back, 3, (some .int), 1)
abbrev mdX11_count : MD := (yX11_count, RX11, cX11_count, 2, (some .int), 7)
abbrev mdX0_init : MD := (yX0_init, RX0, cX0_init, 1, none, 1)
abbrev mdX0_start : MD := (yX0_start, RX0, cX0_start, 3, none, 1)
abbrev mdX0_keepCurrent : MD := (yX0_keepCurrent, RX0, cX0_keepCurrent, 1, none, 1)
abbrev mdX0_bestIsPresent : MD := (yX0_bestIsPresent, RX0, cX0_bestIsPresent, 2, (some .boolean), 0)
abbrev mdX0_moveOn : MD := (yX0_moveOn, RX0, cX0_moveOn, 5, (some .boolean), 1)
abbrev mdX0_swap : MD := (yX0_swap, RX0, cX0_swap, 4, none, 0)
abbrev mdX1_init : MD := (yX1_init, RX1, cX1_init, 1, none, 2)
abbrev mdX1_takeFrom : MD := (yX1_takeFrom, RX1, cX1_takeFrom, 2, none, 1)
abbrev mdX1_receive : MD := (yX1_receive, RX1, cX1_receive, 4, none, 4)
abbrev mdX1_shine : MD := (yX1_shine, RX1, cX1_shine, 3, none, 1)
abbrev mdX1_passDeed : MD := (yX1_passDeed, RX1, cX1_passDeed, 6, none, 3)
abbrev mdX1_passStage : MD := (yX1_passStage, RX1, cX1_passStage, 5, none, 3)
abbrev mdX1_spread : MD := (yX1_spread, RX1, cX1_spread, 6, none, 0)
abbrev mdX1_unspread : MD := (yX1_unspread, RX1, cX1_unspread, 8, none, 2)
abbrev mdX1_twist : MD := (yX1_twist, RX1, cX1_twist, 4, none, 0)
abbrev mdX1_slip : MD := (yX1_slip, RX1, cX1_slip, 4, none, 2)
abbrev mdX1_turn : MD := (yX1_turn, RX1, cX1_turn, 3, none, 1)
abbrev mdX1_late : MD := (yX1_late, RX1, cX1_late, 3, none, 1)
abbrev mdX1_hit : MD := (yX1_hit, RX1, cX1_hit, 3, none, 0)
abbrev mdX1_multiply : MD := (yX1_multiply, RX1, cX1_multiply, 3, none, 0)
abbrev mdX1_brightestFactor : MD := (yX1_brightestFactor, RX1, cX1_brightestFactor, 4, (some .int), 2)
abbrev mdX1_mend : MD := (yX1_mend, RX1, cX1_mend, 6, none, 2)
abbrev mdX1_bestTurn : MD := (yX1_bestTurn, RX1, cX1_bestTurn, 9, (some .int), 1)
abbrev mdX1_errors : MD := (yX1_errors, RX1, cX1_errors, 4, (some .int), 1)
abbrev mdX1_errorsAtMarks : MD := (yX1_errorsAtMarks, RX1, cX1_errorsAtMarks, 4, (some .int), 1)
abbrev mdX2_light : MD := (yX2_light, RX2, cX2_light, 1, (some .int), 0)
abbrev mdX2_decided : MD := (yX2_decided, RX2, cX2_decided, 1, (some .int), 0)
abbrev mdX2_turned : MD := (yX2_turned, RX2, cX2_turned, 2, (some .int), 0)
abbrev mdX2_power : MD := (yX2_power, RX2, cX2_power, 5, (some .int), 0)
abbrev mdX2_inverse : MD := (yX2_inverse, RX2, cX2_inverse, 1, (some .int), 1)
abbrev mdX3_init : MD := (yX3_init, RX3, cX3_init, 2, none, 3)
abbrev mdX3_remember : MD := (yX3_remember, RX3, cX3_remember, 2, none, 3)
abbrev mdX3_restore : MD := (yX3_restore, RX3, cX3_restore, 2, none, 3)
abbrev mdX4_init : MD := (yX4_init, RX4, cX4_init, 1, none, 1)
abbrev mdX4_put : MD := (yX4_put, RX4, cX4_put, 5, none, 1)
abbrev mdX4_entry : MD := (yX4_entry, RX4, cX4_entry, 2, (some .int), 0)
abbrev mdX4_determinant : MD := (yX4_determinant, RX4, cX4_determinant, 1, (some .int), 1)
abbrev mdX4_invert : MD := (yX4_invert, RX4, cX4_invert, 2, none, 2)
abbrev mdX4_multiplyFromLeft : MD := (yX4_multiplyFromLeft, RX4, cX4_multiplyFromLeft, 2, none, 2)
abbrev mdX5_power : MD := (yX5_power, RX5, cX5_power, 4, (some .int), 0)
abbrev mdX5_atMost : MD := (yX5_atMost, RX5, cX5_atMost, 6, (some .int), 1)
abbrev mdX5_commonDivisor : MD := (yX5_commonDivisor, RX5, cX5_commonDivisor, 2, (some .int), 1)
abbrev mdX5_sharedPower : MD := (yX5_sharedPower, RX5, cX5_sharedPower, 5, (some .int), 0)
abbrev mdX6_init : MD := (yX6_init, RX6, cX6_init, 1, none, 1)
abbrev mdX6_append : MD := (yX6_append, RX6, cX6_append, 3, (some .boolean), 0)
abbrev mdX6_areTrueOf : MD := (yX6_areTrueOf, RX6, cX6_areTrueOf, 3, (some .boolean), 1)
abbrev mdX7_init : MD := (yX7_init, RX7, cX7_init, 1, none, 2)
abbrev mdX7_tellNothing : MD := (yX7_tellNothing, RX7, cX7_tellNothing, 1, none, 1)
abbrev mdX7_emptyRow : MD := (yX7_emptyRow, RX7, cX7_emptyRow, 3, none, 0)
abbrev mdX7_isMarked : MD := (yX7_isMarked, RX7, cX7_isMarked, 2, (some .boolean), 0)
abbrev mdX7_mark : MD := (yX7_mark, RX7, cX7_mark, 4, none, 0)
abbrev mdX7_firstMarked : MD := (yX7_firstMarked, RX7, cX7_firstMarked, 2, (some .int), 1)
abbrev mdX7_takeFrom : MD := (yX7_takeFrom, RX7, cX7_takeFrom, 2, none, 2)
abbrev mdX8_init : MD := (yX8_init, RX8, cX8_init, 2, none, 1)
abbrev mdX8_isPossible : MD := (yX8_isPossible, RX8, cX8_isPossible, 3, (some .boolean), 2)
abbrev mdX8_allows : MD := (yX8_allows, RX8, cX8_allows, 6, (some .boolean), 1)
abbrev mdX8_isFull : MD := (yX8_isFull, RX8, cX8_isFull, 1, (some .boolean), 0)
abbrev mdX8_append : MD := (yX8_append, RX8, cX8_append, 2, none, 1)
abbrev mdX8_remove : MD := (yX8_remove, RX8, cX8_remove, 3, none, 0)
abbrev mdX8_arrange : MD := (yX8_arrange, RX8, cX8_arrange, 4, none, 1)
abbrev mdX8_numberOf : MD := (yX8_numberOf, RX8, cX8_numberOf, 3, (some .int), 0)
abbrev mdX8_takeFrom : MD := (yX8_takeFrom, RX8, cX8_takeFrom, 2, none, 1)
abbrev mdX9_init : MD := (yX9_init, RX9, cX9_init, 1, none, 1)
abbrev mdX9_append : MD := (yX9_append, RX9, cX9_append, 2, (some .boolean), 0)
abbrev mdX9_readInto : MD := (yX9_readInto, RX9, cX9_readInto, 5, (some .int), 5)
abbrev mdX9_endOfToken : MD := (yX9_endOfToken, RX9, cX9_endOfToken, 3, (some .int), 1)
abbrev mdX9_isDigit : MD := (yX9_isDigit, RX9, cX9_isDigit, 1, (some .boolean), 0)
abbrev mdX9_takesToken : MD := (yX9_takesToken, RX9, cX9_takesToken, 5, (some .boolean), 4)
abbrev mdX9_valueOf : MD := (yX9_valueOf, RX9, cX9_valueOf, 4, (some .int), 0)
abbrev mdX9_beginsItem : MD := (yX9_beginsItem, RX9, cX9_beginsItem, 3, (some .boolean), 1)
abbrev mdX9_takesNumber : MD := (yX9_takesNumber, RX9, cX9_takesNumber, 3, (some .boolean), 3)
abbrev mdX9_takesSymbol : MD := (yX9_takesSymbol, RX9, cX9_takesSymbol, 4, (some .boolean), 1)
abbrev mdX9_takesMark : MD := (yX9_takesMark, RX9, cX9_takesMark, 3, (some .boolean), 1)
abbrev mdX9_takesPart : MD := (yX9_takesPart, RX9, cX9_takesPart, 2, (some .boolean), 2)
abbrev mdX9_endsItem : MD := (yX9_endsItem, RX9, cX9_endsItem, 2, (some .boolean), 2)
abbrev mdX9_isWhole : MD := (yX9_isWhole, RX9, cX9_isWhole, 1, (some .boolean), 0)
abbrev mdJ6_bitCount_0f7a4 : MD := (yJ6_bitCount_0f7a4, RJ6, cJ6_bitCount_0f7a4, 1, (some .int), 0)
abbrev mdJ9_floorMod_7cf53 : MD := (yJ9_floorMod_7cf53, RJ9, cJ9_floorMod_7cf53, 3, (some .int), 0)
abbrev mdJ9_max_7cf53 : MD := (yJ9_max_7cf53, RJ9, cJ9_max_7cf53, 2, (some .int), 0)
abbrev mdJ9_min_7cf53 : MD := (yJ9_min_7cf53, RJ9, cJ9_min_7cf53, 2, (some .int), 0)
abbrev mdJ7_fill_53178 : MD := (yJ7_fill_53178, RJ7, cJ7_fill_53178, 4, none, 0)
abbrev mdL_law : MD := (yL_law, RL, cL_law, 4, (some .boolean), 10)
theorem fX0_15 : flk RX0 15 0 1 := ⟨_, rfl, by decide, gw_at (i := 272) (by decide +kernel) rfl⟩
theorem fX0_24 : flk RX0 24 0 2 := ⟨_, rfl, by decide, gw_at (i := 274) (by decide +kernel) rfl⟩
theorem fX0_9 : flk RX0 9 0 0 := ⟨_, rfl, by decide, gw_at (i := 270) (by decide +kernel) rfl⟩
theorem fX10_100 : flk RX10 100 4 2 := ⟨_, rfl, by decide, gw_at (i := 208) (by decide +kernel) rfl⟩
theorem fX10_110 : flk RX10 110 5 0 := ⟨_, rfl, by decide, gw_at (i := 120) (by decide +kernel) rfl⟩
theorem fX10_12 : flk RX10 12 8 0 := ⟨_, rfl, by decide, gw_at (i := 284) (by decide +kernel) rfl⟩
theorem fX10_123 : flk RX10 123 5 1 := ⟨_, rfl, by decide, gw_at (i := 123) (by decide +kernel) rfl⟩
theorem fX10_143 : flk RX10 143 5 2 := ⟨_, rfl, by decide, gw_at (i := 127) (by decide +kernel) rfl⟩
theorem fX10_151 : flk RX10 151 6 2 := ⟨_, rfl, by decide, gw_at (i := 109) (by decide +kernel) rfl⟩
theorem fX10_159 : flk RX10 159 5 3 := ⟨_, rfl, by decide, gw_at (i := 131) (by decide +kernel) rfl⟩
theorem fX10_16 : flk RX10 16 8 1 := ⟨_, rfl, by decide, gw_at (i := 285) (by decide +kernel) rfl⟩
theorem fX10_171 : flk RX10 171 3 0 := ⟨_, rfl, by decide, gw_at (i := 230) (by decide +kernel) rfl⟩
theorem fX10_174 : flk RX10 174 3 1 := ⟨_, rfl, by decide, gw_at (i := 233) (by decide +kernel) rfl⟩
theorem fX10_177 : flk RX10 177 3 2 := ⟨_, rfl, by decide, gw_at (i := 236) (by decide +kernel) rfl⟩
theorem fX10_180 : flk RX10 180 3 3 := ⟨_, rfl, by decide, gw_at (i := 239) (by decide +kernel) rfl⟩
theorem fX10_19 : flk RX10 19 8 2 := ⟨_, rfl, by decide, gw_at (i := 286) (by decide +kernel) rfl⟩
theorem fX10_194 : flk RX10 194 0 1 := ⟨_, rfl, by decide, gw_at (i := 273) (by decide +kernel) rfl⟩
theorem fX10_204 : flk RX10 204 5 5 := ⟨_, rfl, by decide, gw_at (i := 135) (by decide +kernel) rfl⟩
theorem fX10_208 : flk RX10 208 5 4 := ⟨_, rfl, by decide, gw_at (i := 133) (by decide +kernel) rfl⟩
theorem fX10_213 : flk RX10 213 2 2 := ⟨_, rfl, by decide, gw_at (i := 161) (by decide +kernel) rfl⟩
theorem fX10_221 : flk RX10 221 1 0 := ⟨_, rfl, by decide, gw_at (i := 251) (by decide +kernel) rfl⟩
theorem fX10_23 : flk RX10 23 8 3 := ⟨_, rfl, by decide, gw_at (i := 287) (by decide +kernel) rfl⟩
theorem fX10_30 : flk RX10 30 8 4 := ⟨_, rfl, by decide, gw_at (i := 288) (by decide +kernel) rfl⟩
theorem fX10_312 : flk RX10 312 0 0 := ⟨_, rfl, by decide, gw_at (i := 271) (by decide +kernel) rfl⟩
theorem fX10_37 : flk RX10 37 8 5 := ⟨_, rfl, by decide, gw_at (i := 289) (by decide +kernel) rfl⟩
theorem fX10_44 : flk RX10 44 8 6 := ⟨_, rfl, by decide, gw_at (i := 290) (by decide +kernel) rfl⟩
theorem fX10_51 : flk RX10 51 8 7 := ⟨_, rfl, by decide, gw_at (i := 291) (by decide +kernel) rfl⟩
theorem fX10_55 : flk RX10 55 8 8 := ⟨_, rfl, by decide, gw_at (i := 292) (by decide +kernel) rfl⟩
theorem fX10_61 : flk RX10 61 8 9 := ⟨_, rfl, by decide, gw_at (i := 293) (by decide +kernel) rfl⟩
theorem fX10_67 : flk RX10 67 8 10 := ⟨_, rfl, by decide, gw_at (i := 294) (by decide +kernel) rfl⟩
theorem fX10_74 : flk RX10 74 8 11 := ⟨_, rfl, by decide, gw_at (i := 295) (by decide +kernel) rfl⟩
theorem fX10_78 : flk RX10 78 8 12 := ⟨_, rfl, by decide, gw_at (i := 296) (by decide +kernel) rfl⟩
theorem fX10_85 : flk RX10 85 7 2 := ⟨_, rfl, by decide, gw_at (i := 179) (by decide +kernel) rfl⟩
theorem fX11_100 : flk RX11 100 9 12 := ⟨_, rfl, by decide, gw_at (i := 832) (by decide +kernel) rfl⟩
theorem fX11_103 : flk RX11 103 9 14 := ⟨_, rfl, by decide, gw_at (i := 834) (by decide +kernel) rfl⟩
theorem fX11_106 : flk RX11 106 9 13 := ⟨_, rfl, by decide, gw_at (i := 833) (by decide +kernel) rfl⟩
theorem fX11_109 : flk RX11 109 9 15 := ⟨_, rfl, by decide, gw_at (i := 835) (by decide +kernel) rfl⟩
theorem fX11_119 : flk RX11 119 9 16 := ⟨_, rfl, by decide, gw_at (i := 836) (by decide +kernel) rfl⟩
theorem fX11_13 : flk RX11 13 9 2 := ⟨_, rfl, by decide, gw_at (i := 822) (by decide +kernel) rfl⟩
theorem fX11_143 : flk RX11 143 9 27 := ⟨_, rfl, by decide, gw_at (i := 847) (by decide +kernel) rfl⟩
theorem fX11_16 : flk RX11 16 9 3 := ⟨_, rfl, by decide, gw_at (i := 823) (by decide +kernel) rfl⟩
theorem fX11_20 : flk RX11 20 9 5 := ⟨_, rfl, by decide, gw_at (i := 825) (by decide +kernel) rfl⟩
theorem fX11_217 : flk RX11 217 9 19 := ⟨_, rfl, by decide, gw_at (i := 839) (by decide +kernel) rfl⟩
theorem fX11_220 : flk RX11 220 9 20 := ⟨_, rfl, by decide, gw_at (i := 840) (by decide +kernel) rfl⟩
theorem fX11_23 : flk RX11 23 9 6 := ⟨_, rfl, by decide, gw_at (i := 826) (by decide +kernel) rfl⟩
theorem fX11_235 : flk RX11 235 9 24 := ⟨_, rfl, by decide, gw_at (i := 844) (by decide +kernel) rfl⟩
theorem fX11_26 : flk RX11 26 9 7 := ⟨_, rfl, by decide, gw_at (i := 827) (by decide +kernel) rfl⟩
theorem fX11_30 : flk RX11 30 9 8 := ⟨_, rfl, by decide, gw_at (i := 828) (by decide +kernel) rfl⟩
theorem fX11_33 : flk RX11 33 9 10 := ⟨_, rfl, by decide, gw_at (i := 830) (by decide +kernel) rfl⟩
theorem fX11_36 : flk RX11 36 9 17 := ⟨_, rfl, by decide, gw_at (i := 837) (by decide +kernel) rfl⟩
theorem fX11_39 : flk RX11 39 9 18 := ⟨_, rfl, by decide, gw_at (i := 838) (by decide +kernel) rfl⟩
theorem fX11_42 : flk RX11 42 9 21 := ⟨_, rfl, by decide, gw_at (i := 841) (by decide +kernel) rfl⟩
theorem fX11_45 : flk RX11 45 9 22 := ⟨_, rfl, by decide, gw_at (i := 842) (by decide +kernel) rfl⟩
theorem fX11_48 : flk RX11 48 9 23 := ⟨_, rfl, by decide, gw_at (i := 843) (by decide +kernel) rfl⟩
theorem fX11_51 : flk RX11 51 9 25 := ⟨_, rfl, by decide, gw_at (i := 845) (by decide +kernel) rfl⟩
theorem fX11_54 : flk RX11 54 9 26 := ⟨_, rfl, by decide, gw_at (i := 846) (by decide +kernel) rfl⟩
theorem fX11_57 : flk RX11 57 9 28 := ⟨_, rfl, by decide, gw_at (i := 848) (by decide +kernel) rfl⟩
theorem fX11_60 : flk RX11 60 9 29 := ⟨_, rfl, by decide, gw_at (i := 849) (by decide +kernel) rfl⟩
theorem fX11_7 : flk RX11 7 9 0 := ⟨_, rfl, by decide, gw_at (i := 820) (by decide +kernel) rfl⟩
theorem fX11_74 : flk RX11 74 9 4 := ⟨_, rfl, by decide, gw_at (i := 824) (by decide +kernel) rfl⟩
theorem fX11_78 : flk RX11 78 9 1 := ⟨_, rfl, by decide, gw_at (i := 821) (by decide +kernel) rfl⟩
theorem fX11_94 : flk RX11 94 9 9 := ⟨_, rfl, by decide, gw_at (i := 829) (by decide +kernel) rfl⟩
theorem fX11_97 : flk RX11 97 9 11 := ⟨_, rfl, by decide, gw_at (i := 831) (by decide +kernel) rfl⟩
theorem fX1_122 : flk RX1 122 3 0 := ⟨_, rfl, by decide, gw_at (i := 229) (by decide +kernel) rfl⟩
theorem fX1_125 : flk RX1 125 3 1 := ⟨_, rfl, by decide, gw_at (i := 232) (by decide +kernel) rfl⟩
theorem fX1_128 : flk RX1 128 3 2 := ⟨_, rfl, by decide, gw_at (i := 235) (by decide +kernel) rfl⟩
theorem fX1_131 : flk RX1 131 3 3 := ⟨_, rfl, by decide, gw_at (i := 238) (by decide +kernel) rfl⟩
theorem fX1_15 : flk RX1 15 1 1 := ⟨_, rfl, by decide, gw_at (i := 252) (by decide +kernel) rfl⟩
theorem fX1_18 : flk RX1 18 1 2 := ⟨_, rfl, by decide, gw_at (i := 253) (by decide +kernel) rfl⟩
theorem fX1_24 : flk RX1 24 1 3 := ⟨_, rfl, by decide, gw_at (i := 254) (by decide +kernel) rfl⟩
theorem fX1_38 : flk RX1 38 5 2 := ⟨_, rfl, by decide, gw_at (i := 126) (by decide +kernel) rfl⟩
theorem fX1_44 : flk RX1 44 6 2 := ⟨_, rfl, by decide, gw_at (i := 107) (by decide +kernel) rfl⟩
theorem fX1_58 : flk RX1 58 5 0 := ⟨_, rfl, by decide, gw_at (i := 119) (by decide +kernel) rfl⟩
theorem fX1_9 : flk RX1 9 1 0 := ⟨_, rfl, by decide, gw_at (i := 249) (by decide +kernel) rfl⟩
theorem fX1_92 : flk RX1 92 5 3 := ⟨_, rfl, by decide, gw_at (i := 130) (by decide +kernel) rfl⟩
theorem fX3_11 : flk RX3 11 2 0 := ⟨_, rfl, by decide, gw_at (i := 158) (by decide +kernel) rfl⟩
theorem fX3_18 : flk RX3 18 2 1 := ⟨_, rfl, by decide, gw_at (i := 159) (by decide +kernel) rfl⟩
theorem fX3_26 : flk RX3 26 2 2 := ⟨_, rfl, by decide, gw_at (i := 160) (by decide +kernel) rfl⟩
theorem fX4_15 : flk RX4 15 3 0 := ⟨_, rfl, by decide, gw_at (i := 228) (by decide +kernel) rfl⟩
theorem fX4_21 : flk RX4 21 3 1 := ⟨_, rfl, by decide, gw_at (i := 231) (by decide +kernel) rfl⟩
theorem fX4_24 : flk RX4 24 3 2 := ⟨_, rfl, by decide, gw_at (i := 234) (by decide +kernel) rfl⟩
theorem fX4_27 : flk RX4 27 3 3 := ⟨_, rfl, by decide, gw_at (i := 237) (by decide +kernel) rfl⟩
theorem fX6_15 : flk RX6 15 4 1 := ⟨_, rfl, by decide, gw_at (i := 206) (by decide +kernel) rfl⟩
theorem fX6_18 : flk RX6 18 4 2 := ⟨_, rfl, by decide, gw_at (i := 207) (by decide +kernel) rfl⟩
theorem fX6_22 : flk RX6 22 1 0 := ⟨_, rfl, by decide, gw_at (i := 250) (by decide +kernel) rfl⟩
theorem fX6_9 : flk RX6 9 4 0 := ⟨_, rfl, by decide, gw_at (i := 205) (by decide +kernel) rfl⟩
theorem fX7_15 : flk RX7 15 5 1 := ⟨_, rfl, by decide, gw_at (i := 122) (by decide +kernel) rfl⟩
theorem fX7_24 : flk RX7 24 5 2 := ⟨_, rfl, by decide, gw_at (i := 125) (by decide +kernel) rfl⟩
theorem fX7_28 : flk RX7 28 5 3 := ⟨_, rfl, by decide, gw_at (i := 129) (by decide +kernel) rfl⟩
theorem fX7_37 : flk RX7 37 6 2 := ⟨_, rfl, by decide, gw_at (i := 106) (by decide +kernel) rfl⟩
theorem fX7_54 : flk RX7 54 5 4 := ⟨_, rfl, by decide, gw_at (i := 132) (by decide +kernel) rfl⟩
theorem fX7_58 : flk RX7 58 5 5 := ⟨_, rfl, by decide, gw_at (i := 134) (by decide +kernel) rfl⟩
theorem fX7_9 : flk RX7 9 5 0 := ⟨_, rfl, by decide, gw_at (i := 118) (by decide +kernel) rfl⟩
theorem fX8_11 : flk RX8 11 6 0 := ⟨_, rfl, by decide, gw_at (i := 104) (by decide +kernel) rfl⟩
theorem fX8_21 : flk RX8 21 6 1 := ⟨_, rfl, by decide, gw_at (i := 105) (by decide +kernel) rfl⟩
theorem fX8_37 : flk RX8 37 6 2 := ⟨_, rfl, by decide, gw_at (i := 108) (by decide +kernel) rfl⟩
theorem fX9_11 : flk RX9 11 7 0 := ⟨_, rfl, by decide, gw_at (i := 176) (by decide +kernel) rfl⟩
theorem fX9_17 : flk RX9 17 7 1 := ⟨_, rfl, by decide, gw_at (i := 177) (by decide +kernel) rfl⟩
theorem fX9_20 : flk RX9 20 7 2 := ⟨_, rfl, by decide, gw_at (i := 178) (by decide +kernel) rfl⟩
theorem fX9_29 : flk RX9 29 7 3 := ⟨_, rfl, by decide, gw_at (i := 180) (by decide +kernel) rfl⟩
theorem fX9_32 : flk RX9 32 7 5 := ⟨_, rfl, by decide, gw_at (i := 182) (by decide +kernel) rfl⟩
theorem fX9_35 : flk RX9 35 7 6 := ⟨_, rfl, by decide, gw_at (i := 183) (by decide +kernel) rfl⟩
theorem fX9_70 : flk RX9 70 5 1 := ⟨_, rfl, by decide, gw_at (i := 124) (by decide +kernel) rfl⟩
theorem fX9_73 : flk RX9 73 5 2 := ⟨_, rfl, by decide, gw_at (i := 128) (by decide +kernel) rfl⟩
theorem fX9_81 : flk RX9 81 7 4 := ⟨_, rfl, by decide, gw_at (i := 181) (by decide +kernel) rfl⟩
theorem fX9_96 : flk RX9 96 5 0 := ⟨_, rfl, by decide, gw_at (i := 121) (by decide +kernel) rfl⟩
theorem okJ6_bitCount_0f7a4 : okM mdJ6_bitCount_0f7a4 1 := ⟨gw_at (i := 79) (by decide +kernel) rfl, gw_at (i := 467) (by decide +kernel) rfl, by decide, by decide, by decide +kernel, by decide⟩
theorem okJ7_fill_53178 : okM mdJ7_fill_53178 2 := ⟨gw_at (i := 77) (by decide +kernel) rfl, gw_at (i := 362) (by decide +kernel) rfl, by decide, by decide, by decide +kernel, by decide⟩
theorem okJ9_floorMod_7cf53 : okM mdJ9_floorMod_7cf53 2 := ⟨gw_at (i := 68) (by decide +kernel) rfl, gw_at (i := 418) (by decide +kernel) rfl, by decide, by decide, by decide +kernel, by decide⟩
theorem okJ9_max_7cf53 : okM mdJ9_max_7cf53 2 := ⟨gw_at (i := 68) (by decide +kernel) rfl, gw_at (i := 699) (by decide +kernel) rfl, by decide, by decide, by decide +kernel, by decide⟩
theorem okJ9_min_7cf53 : okM mdJ9_min_7cf53 2 := ⟨gw_at (i := 68) (by decide +kernel) rfl, gw_at (i := 103) (by decide +kernel) rfl, by decide, by decide, by decide +kernel, by decide⟩
theorem okX0_bestIsPresent : okM mdX0_bestIsPresent 0 := ⟨gw_at (i := 74) (by decide +kernel) rfl, gw_at (i := 673) (by decide +kernel) rfl, by decide, by decide, by decide +kernel, by decide⟩
theorem okX0_keepCurrent : okM mdX0_keepCurrent 0 := ⟨gw_at (i := 74) (by decide +kernel) rfl, gw_at (i := 660) (by decide +kernel) rfl, by decide, by decide, by decide +kernel, by decide⟩
theorem okX0_moveOn : okM mdX0_moveOn 0 := ⟨gw_at (i := 74) (by decide +kernel) rfl, gw_at (i := 665) (by decide +kernel) rfl, by decide, by decide, by decide +kernel, by decide⟩
theorem okX0_start : okM mdX0_start 1 := ⟨gw_at (i := 74) (by decide +kernel) rfl, gw_at (i := 642) (by decide +kernel) rfl, by decide, by decide, by decide +kernel, by decide⟩
theorem okX0_swap : okM mdX0_swap 2 := ⟨gw_at (i := 74) (by decide +kernel) rfl, gw_at (i := 669) (by decide +kernel) rfl, by decide, by decide, by decide +kernel, by decide⟩
theorem okX10_appendStep : okM mdX10_appendStep 1 := ⟨gw_at (i := 65) (by decide +kernel) rfl, gw_at (i := 487) (by decide +kernel) rfl, by decide, by decide, by decide +kernel, by decide⟩
theorem okX10_errorsAfter : okM mdX10_errorsAfter 1 := ⟨gw_at (i := 65) (by decide +kernel) rfl, gw_at (i := 686) (by decide +kernel) rfl, by decide, by decide, by decide +kernel, by decide⟩
theorem okX10_errorsInOrder : okM mdX10_errorsInOrder 1 := ⟨gw_at (i := 65) (by decide +kernel) rfl, gw_at (i := 647) (by decide +kernel) rfl, by decide, by decide, by decide +kernel, by decide⟩
theorem okX10_findBestOrder : okM mdX10_findBestOrder 0 := ⟨gw_at (i := 65) (by decide +kernel) rfl, gw_at (i := 638) (by decide +kernel) rfl, by decide, by decide, by decide +kernel, by decide⟩
theorem okX10_findTaps : okM mdX10_findTaps 2 := ⟨gw_at (i := 65) (by decide +kernel) rfl, gw_at (i := 518) (by decide +kernel) rfl, by decide, by decide, by decide +kernel, by decide⟩
theorem okX10_isPair : okM mdX10_isPair 2 := ⟨gw_at (i := 65) (by decide +kernel) rfl, gw_at (i := 514) (by decide +kernel) rfl, by decide, by decide, by decide +kernel, by decide⟩
theorem okX10_isPlace : okM mdX10_isPlace 1 := ⟨gw_at (i := 65) (by decide +kernel) rfl, gw_at (i := 395) (by decide +kernel) rfl, by decide, by decide, by decide +kernel, by decide⟩
theorem okX10_isSpot : okM mdX10_isSpot 2 := ⟨gw_at (i := 65) (by decide +kernel) rfl, gw_at (i := 456) (by decide +kernel) rfl, by decide, by decide, by decide +kernel, by decide⟩
theorem okX10_isSymbol : okM mdX10_isSymbol 1 := ⟨gw_at (i := 65) (by decide +kernel) rfl, gw_at (i := 388) (by decide +kernel) rfl, by decide, by decide, by decide +kernel, by decide⟩
theorem okX10_putStep : okM mdX10_putStep 5 := ⟨gw_at (i := 65) (by decide +kernel) rfl, gw_at (i := 478) (by decide +kernel) rfl, by decide, by decide, by decide +kernel, by decide⟩
theorem okX10_slipFits : okM mdX10_slipFits 2 := ⟨gw_at (i := 65) (by decide +kernel) rfl, gw_at (i := 777) (by decide +kernel) rfl, by decide, by decide, by decide +kernel, by decide⟩
theorem okX10_unspreadFits : okM mdX10_unspreadFits 1 := ⟨gw_at (i := 65) (by decide +kernel) rfl, gw_at (i := 748) (by decide +kernel) rfl, by decide, by decide, by decide +kernel, by decide⟩
theorem okX11_arePlaces : okM mdX11_arePlaces 2 := ⟨gw_at (i := 75) (by decide +kernel) rfl, gw_at (i := 1015) (by decide +kernel) rfl, by decide, by decide, by decide +kernel, by decide⟩
theorem okX11_areTaps : okM mdX11_areTaps 2 := ⟨gw_at (i := 75) (by decide +kernel) rfl, gw_at (i := 1019) (by decide +kernel) rfl, by decide, by decide, by decide +kernel, by decide⟩
theorem okX11_blind : okM mdX11_blind 0 := ⟨gw_at (i := 75) (by decide +kernel) rfl, gw_at (i := 1077) (by decide +kernel) rfl, by decide, by decide, by decide +kernel, by decide⟩
theorem okX11_decided : okM mdX11_decided 1 := ⟨gw_at (i := 75) (by decide +kernel) rfl, gw_at (i := 1087) (by decide +kernel) rfl, by decide, by decide, by decide +kernel, by decide⟩
theorem okX11_doDeed : okM mdX11_doDeed 1 := ⟨gw_at (i := 75) (by decide +kernel) rfl, gw_at (i := 1034) (by decide +kernel) rfl, by decide, by decide, by decide +kernel, by decide⟩
theorem okX11_doStage : okM mdX11_doStage 1 := ⟨gw_at (i := 75) (by decide +kernel) rfl, gw_at (i := 1062) (by decide +kernel) rfl, by decide, by decide, by decide +kernel, by decide⟩
theorem okX11_findOrder : okM mdX11_findOrder 0 := ⟨gw_at (i := 75) (by decide +kernel) rfl, gw_at (i := 1107) (by decide +kernel) rfl, by decide, by decide, by decide +kernel, by decide⟩
theorem okX11_findTaps : okM mdX11_findTaps 3 := ⟨gw_at (i := 75) (by decide +kernel) rfl, gw_at (i := 1095) (by decide +kernel) rfl, by decide, by decide, by decide +kernel, by decide⟩
theorem okX11_goThrough : okM mdX11_goThrough 1 := ⟨gw_at (i := 75) (by decide +kernel) rfl, gw_at (i := 1058) (by decide +kernel) rfl, by decide, by decide, by decide +kernel, by decide⟩
theorem okX11_has : okM mdX11_has 2 := ⟨gw_at (i := 75) (by decide +kernel) rfl, gw_at (i := 949) (by decide +kernel) rfl, by decide, by decide, by decide +kernel, by decide⟩
theorem okX11_in : okM mdX11_in 3 := ⟨gw_at (i := 75) (by decide +kernel) rfl, gw_at (i := 922) (by decide +kernel) rfl, by decide, by decide, by decide +kernel, by decide⟩
theorem okX11_inverse : okM mdX11_inverse 1 := ⟨gw_at (i := 75) (by decide +kernel) rfl, gw_at (i := 1069) (by decide +kernel) rfl, by decide, by decide, by decide +kernel, by decide⟩
theorem okX11_isDeed : okM mdX11_isDeed 5 := ⟨gw_at (i := 75) (by decide +kernel) rfl, gw_at (i := 989) (by decide +kernel) rfl, by decide, by decide, by decide +kernel, by decide⟩
theorem okX11_isLight : okM mdX11_isLight 1 := ⟨gw_at (i := 75) (by decide +kernel) rfl, gw_at (i := 1080) (by decide +kernel) rfl, by decide, by decide, by decide +kernel, by decide⟩
theorem okX11_isSeenBy : okM mdX11_isSeenBy 2 := ⟨gw_at (i := 75) (by decide +kernel) rfl, gw_at (i := 1194) (by decide +kernel) rfl, by decide, by decide, by decide +kernel, by decide⟩
theorem okX11_isStage : okM mdX11_isStage 5 := ⟨gw_at (i := 75) (by decide +kernel) rfl, gw_at (i := 1004) (by decide +kernel) rfl, by decide, by decide, by decide +kernel, by decide⟩
theorem okX11_keepReceived : okM mdX11_keepReceived 0 := ⟨gw_at (i := 75) (by decide +kernel) rfl, gw_at (i := 1162) (by decide +kernel) rfl, by decide, by decide, by decide +kernel, by decide⟩
theorem okX11_late : okM mdX11_late 1 := ⟨gw_at (i := 75) (by decide +kernel) rfl, gw_at (i := 1054) (by decide +kernel) rfl, by decide, by decide, by decide +kernel, by decide⟩
theorem okX11_lay : okM mdX11_lay 6 := ⟨gw_at (i := 75) (by decide +kernel) rfl, gw_at (i := 993) (by decide +kernel) rfl, by decide, by decide, by decide +kernel, by decide⟩
theorem okX11_layAir : okM mdX11_layAir 0 := ⟨gw_at (i := 75) (by decide +kernel) rfl, gw_at (i := 1027) (by decide +kernel) rfl, by decide, by decide, by decide +kernel, by decide⟩
theorem okX11_layKept : okM mdX11_layKept 0 := ⟨gw_at (i := 75) (by decide +kernel) rfl, gw_at (i := 1166) (by decide +kernel) rfl, by decide, by decide, by decide +kernel, by decide⟩
theorem okX11_layReceived : okM mdX11_layReceived 0 := ⟨gw_at (i := 75) (by decide +kernel) rfl, gw_at (i := 1023) (by decide +kernel) rfl, by decide, by decide, by decide +kernel, by decide⟩
theorem okX11_left : okM mdX11_left 1 := ⟨gw_at (i := 75) (by decide +kernel) rfl, gw_at (i := 962) (by decide +kernel) rfl, by decide, by decide, by decide +kernel, by decide⟩
theorem okX11_light : okM mdX11_light 1 := ⟨gw_at (i := 75) (by decide +kernel) rfl, gw_at (i := 1030) (by decide +kernel) rfl, by decide, by decide, by decide +kernel, by decide⟩
theorem okX11_marksMany : okM mdX11_marksMany 0 := ⟨gw_at (i := 75) (by decide +kernel) rfl, gw_at (i := 982) (by decide +kernel) rfl, by decide, by decide, by decide +kernel, by decide⟩
theorem okX11_mayBe : okM mdX11_mayBe 6 := ⟨gw_at (i := 75) (by decide +kernel) rfl, gw_at (i := 956) (by decide +kernel) rfl, by decide, by decide, by decide +kernel, by decide⟩
theorem okX11_mend : okM mdX11_mend 0 := ⟨gw_at (i := 75) (by decide +kernel) rfl, gw_at (i := 1084) (by decide +kernel) rfl, by decide, by decide, by decide +kernel, by decide⟩
theorem okX11_mendFrom : okM mdX11_mendFrom 2 := ⟨gw_at (i := 75) (by decide +kernel) rfl, gw_at (i := 1091) (by decide +kernel) rfl, by decide, by decide, by decide +kernel, by decide⟩
theorem okX11_must : okM mdX11_must 1 := ⟨gw_at (i := 75) (by decide +kernel) rfl, gw_at (i := 942) (by decide +kernel) rfl, by decide, by decide, by decide +kernel, by decide⟩
theorem okX11_next : okM mdX11_next 0 := ⟨gw_at (i := 75) (by decide +kernel) rfl, gw_at (i := 934) (by decide +kernel) rfl, by decide, by decide, by decide +kernel, by decide⟩
theorem okX11_note : okM mdX11_note 0 := ⟨gw_at (i := 75) (by decide +kernel) rfl, gw_at (i := 970) (by decide +kernel) rfl, by decide, by decide, by decide +kernel, by decide⟩
theorem okX11_power : okM mdX11_power 2 := ⟨gw_at (i := 75) (by decide +kernel) rfl, gw_at (i := 959) (by decide +kernel) rfl, by decide, by decide, by decide +kernel, by decide⟩
theorem okX11_readDeed : okM mdX11_readDeed 0 := ⟨gw_at (i := 75) (by decide +kernel) rfl, gw_at (i := 953) (by decide +kernel) rfl, by decide, by decide, by decide +kernel, by decide⟩
theorem okX11_readItem : okM mdX11_readItem 0 := ⟨gw_at (i := 75) (by decide +kernel) rfl, gw_at (i := 938) (by decide +kernel) rfl, by decide, by decide, by decide +kernel, by decide⟩
theorem okX11_readMarks : okM mdX11_readMarks 0 := ⟨gw_at (i := 75) (by decide +kernel) rfl, gw_at (i := 946) (by decide +kernel) rfl, by decide, by decide, by decide +kernel, by decide⟩
theorem okX11_readRow : okM mdX11_readRow 1 := ⟨gw_at (i := 75) (by decide +kernel) rfl, gw_at (i := 966) (by decide +kernel) rfl, by decide, by decide, by decide +kernel, by decide⟩
theorem okX11_slip : okM mdX11_slip 2 := ⟨gw_at (i := 75) (by decide +kernel) rfl, gw_at (i := 1050) (by decide +kernel) rfl, by decide, by decide, by decide +kernel, by decide⟩
theorem okX11_spread : okM mdX11_spread 1 := ⟨gw_at (i := 75) (by decide +kernel) rfl, gw_at (i := 1038) (by decide +kernel) rfl, by decide, by decide, by decide +kernel, by decide⟩
theorem okX11_swap : okM mdX11_swap 2 := ⟨gw_at (i := 75) (by decide +kernel) rfl, gw_at (i := 1119) (by decide +kernel) rfl, by decide, by decide, by decide +kernel, by decide⟩
theorem okX11_takeMade : okM mdX11_takeMade 0 := ⟨gw_at (i := 75) (by decide +kernel) rfl, gw_at (i := 1042) (by decide +kernel) rfl, by decide, by decide, by decide +kernel, by decide⟩
theorem okX11_turnsOn : okM mdX11_turnsOn 1 := ⟨gw_at (i := 75) (by decide +kernel) rfl, gw_at (i := 1115) (by decide +kernel) rfl, by decide, by decide, by decide +kernel, by decide⟩
theorem okX11_twist : okM mdX11_twist 4 := ⟨gw_at (i := 75) (by decide +kernel) rfl, gw_at (i := 1046) (by decide +kernel) rfl, by decide, by decide, by decide +kernel, by decide⟩
theorem okX11_unspread : okM mdX11_unspread 1 := ⟨gw_at (i := 75) (by decide +kernel) rfl, gw_at (i := 1066) (by decide +kernel) rfl, by decide, by decide, by decide +kernel, by decide⟩
theorem okX11_untwist : okM mdX11_untwist 4 := ⟨gw_at (i := 75) (by decide +kernel) rfl, gw_at (i := 1073) (by decide +kernel) rfl, by decide, by decide, by decide +kernel, by decide⟩
theorem okX11_wrongAtMarks : okM mdX11_wrongAtMarks 0 := ⟨gw_at (i := 75) (by decide +kernel) rfl, gw_at (i := 1170) (by decide +kernel) rfl, by decide, by decide, by decide +kernel, by decide⟩
theorem okX11_wrongNow : okM mdX11_wrongNow 0 := ⟨gw_at (i := 75) (by decide +kernel) rfl, gw_at (i := 1111) (by decide +kernel) rfl, by decide, by decide, by decide +kernel, by decide⟩
theorem okX11_wrongReceived : okM mdX11_wrongReceived 0 := ⟨gw_at (i := 75) (by decide +kernel) rfl, gw_at (i := 1131) (by decide +kernel) rfl, by decide, by decide, by decide +kernel, by decide⟩
theorem okX1_bestTurn : okM mdX1_bestTurn 2 := ⟨gw_at (i := 72) (by decide +kernel) rfl, gw_at (i := 619) (by decide +kernel) rfl, by decide, by decide, by decide +kernel, by decide⟩
theorem okX1_brightestFactor : okM mdX1_brightestFactor 0 := ⟨gw_at (i := 72) (by decide +kernel) rfl, gw_at (i := 600) (by decide +kernel) rfl, by decide, by decide, by decide +kernel, by decide⟩
theorem okX1_errors : okM mdX1_errors 1 := ⟨gw_at (i := 72) (by decide +kernel) rfl, gw_at (i := 656) (by decide +kernel) rfl, by decide, by decide, by decide +kernel, by decide⟩
theorem okX1_errorsAtMarks : okM mdX1_errorsAtMarks 1 := ⟨gw_at (i := 72) (by decide +kernel) rfl, gw_at (i := 739) (by decide +kernel) rfl, by decide, by decide, by decide +kernel, by decide⟩
theorem okX1_hit : okM mdX1_hit 2 := ⟨gw_at (i := 72) (by decide +kernel) rfl, gw_at (i := 572) (by decide +kernel) rfl, by decide, by decide, by decide +kernel, by decide⟩
theorem okX1_late : okM mdX1_late 1 := ⟨gw_at (i := 72) (by decide +kernel) rfl, gw_at (i := 567) (by decide +kernel) rfl, by decide, by decide, by decide +kernel, by decide⟩
theorem okX1_mend : okM mdX1_mend 1 := ⟨gw_at (i := 72) (by decide +kernel) rfl, gw_at (i := 609) (by decide +kernel) rfl, by decide, by decide, by decide +kernel, by decide⟩
theorem okX1_multiply : okM mdX1_multiply 1 := ⟨gw_at (i := 72) (by decide +kernel) rfl, gw_at (i := 605) (by decide +kernel) rfl, by decide, by decide, by decide +kernel, by decide⟩
theorem okX1_passDeed : okM mdX1_passDeed 2 := ⟨gw_at (i := 72) (by decide +kernel) rfl, gw_at (i := 535) (by decide +kernel) rfl, by decide, by decide, by decide +kernel, by decide⟩
theorem okX1_passStage : okM mdX1_passStage 2 := ⟨gw_at (i := 72) (by decide +kernel) rfl, gw_at (i := 576) (by decide +kernel) rfl, by decide, by decide, by decide +kernel, by decide⟩
theorem okX1_receive : okM mdX1_receive 2 := ⟨gw_at (i := 72) (by decide +kernel) rfl, gw_at (i := 522) (by decide +kernel) rfl, by decide, by decide, by decide +kernel, by decide⟩
theorem okX1_shine : okM mdX1_shine 1 := ⟨gw_at (i := 72) (by decide +kernel) rfl, gw_at (i := 526) (by decide +kernel) rfl, by decide, by decide, by decide +kernel, by decide⟩
theorem okX1_slip : okM mdX1_slip 2 := ⟨gw_at (i := 72) (by decide +kernel) rfl, gw_at (i := 556) (by decide +kernel) rfl, by decide, by decide, by decide +kernel, by decide⟩
theorem okX1_spread : okM mdX1_spread 1 := ⟨gw_at (i := 72) (by decide +kernel) rfl, gw_at (i := 543) (by decide +kernel) rfl, by decide, by decide, by decide +kernel, by decide⟩
theorem okX1_takeFrom : okM mdX1_takeFrom 1 := ⟨gw_at (i := 72) (by decide +kernel) rfl, gw_at (i := 651) (by decide +kernel) rfl, by decide, by decide, by decide +kernel, by decide⟩
theorem okX1_turn : okM mdX1_turn 2 := ⟨gw_at (i := 72) (by decide +kernel) rfl, gw_at (i := 560) (by decide +kernel) rfl, by decide, by decide, by decide +kernel, by decide⟩
theorem okX1_twist : okM mdX1_twist 0 := ⟨gw_at (i := 72) (by decide +kernel) rfl, gw_at (i := 552) (by decide +kernel) rfl, by decide, by decide, by decide +kernel, by decide⟩
theorem okX1_unspread : okM mdX1_unspread 1 := ⟨gw_at (i := 72) (by decide +kernel) rfl, gw_at (i := 580) (by decide +kernel) rfl, by decide, by decide, by decide +kernel, by decide⟩
theorem okX2_decided : okM mdX2_decided 1 := ⟨gw_at (i := 78) (by decide +kernel) rfl, gw_at (i := 622) (by decide +kernel) rfl, by decide, by decide, by decide +kernel, by decide⟩
theorem okX2_inverse : okM mdX2_inverse 1 := ⟨gw_at (i := 78) (by decide +kernel) rfl, gw_at (i := 585) (by decide +kernel) rfl, by decide, by decide, by decide +kernel, by decide⟩
theorem okX2_light : okM mdX2_light 1 := ⟨gw_at (i := 78) (by decide +kernel) rfl, gw_at (i := 529) (by decide +kernel) rfl, by decide, by decide, by decide +kernel, by decide⟩
theorem okX2_power : okM mdX2_power 2 := ⟨gw_at (i := 78) (by decide +kernel) rfl, gw_at (i := 415) (by decide +kernel) rfl, by decide, by decide, by decide +kernel, by decide⟩
theorem okX2_turned : okM mdX2_turned 2 := ⟨gw_at (i := 78) (by decide +kernel) rfl, gw_at (i := 563) (by decide +kernel) rfl, by decide, by decide, by decide +kernel, by decide⟩
theorem okX3_remember : okM mdX3_remember 1 := ⟨gw_at (i := 69) (by decide +kernel) rfl, gw_at (i := 447) (by decide +kernel) rfl, by decide, by decide, by decide +kernel, by decide⟩
theorem okX3_restore : okM mdX3_restore 1 := ⟨gw_at (i := 69) (by decide +kernel) rfl, gw_at (i := 696) (by decide +kernel) rfl, by decide, by decide, by decide +kernel, by decide⟩
theorem okX4_determinant : okM mdX4_determinant 0 := ⟨gw_at (i := 73) (by decide +kernel) rfl, gw_at (i := 594) (by decide +kernel) rfl, by decide, by decide, by decide +kernel, by decide⟩
theorem okX4_entry : okM mdX4_entry 1 := ⟨gw_at (i := 73) (by decide +kernel) rfl, gw_at (i := 730) (by decide +kernel) rfl, by decide, by decide, by decide +kernel, by decide⟩
theorem okX4_invert : okM mdX4_invert 0 := ⟨gw_at (i := 73) (by decide +kernel) rfl, gw_at (i := 590) (by decide +kernel) rfl, by decide, by decide, by decide +kernel, by decide⟩
theorem okX4_multiplyFromLeft : okM mdX4_multiplyFromLeft 1 := ⟨gw_at (i := 73) (by decide +kernel) rfl, gw_at (i := 630) (by decide +kernel) rfl, by decide, by decide, by decide +kernel, by decide⟩
theorem okX4_put : okM mdX4_put 4 := ⟨gw_at (i := 73) (by decide +kernel) rfl, gw_at (i := 547) (by decide +kernel) rfl, by decide, by decide, by decide +kernel, by decide⟩
theorem okX5_atMost : okM mdX5_atMost 3 := ⟨gw_at (i := 80) (by decide +kernel) rfl, gw_at (i := 793) (by decide +kernel) rfl, by decide, by decide, by decide +kernel, by decide⟩
theorem okX5_commonDivisor : okM mdX5_commonDivisor 2 := ⟨gw_at (i := 80) (by decide +kernel) rfl, gw_at (i := 797) (by decide +kernel) rfl, by decide, by decide, by decide +kernel, by decide⟩
theorem okX5_power : okM mdX5_power 2 := ⟨gw_at (i := 80) (by decide +kernel) rfl, gw_at (i := 790) (by decide +kernel) rfl, by decide, by decide, by decide +kernel, by decide⟩
theorem okX5_sharedPower : okM mdX5_sharedPower 3 := ⟨gw_at (i := 80) (by decide +kernel) rfl, gw_at (i := 800) (by decide +kernel) rfl, by decide, by decide, by decide +kernel, by decide⟩
theorem okX6_append : okM mdX6_append 2 := ⟨gw_at (i := 71) (by decide +kernel) rfl, gw_at (i := 765) (by decide +kernel) rfl, by decide, by decide, by decide +kernel, by decide⟩
theorem okX6_areTrueOf : okM mdX6_areTrueOf 1 := ⟨gw_at (i := 71) (by decide +kernel) rfl, gw_at (i := 782) (by decide +kernel) rfl, by decide, by decide, by decide +kernel, by decide⟩
theorem okX7_emptyRow : okM mdX7_emptyRow 1 := ⟨gw_at (i := 66) (by decide +kernel) rfl, gw_at (i := 442) (by decide +kernel) rfl, by decide, by decide, by decide +kernel, by decide⟩
theorem okX7_firstMarked : okM mdX7_firstMarked 0 := ⟨gw_at (i := 66) (by decide +kernel) rfl, gw_at (i := 613) (by decide +kernel) rfl, by decide, by decide, by decide +kernel, by decide⟩
theorem okX7_isMarked : okM mdX7_isMarked 1 := ⟨gw_at (i := 66) (by decide +kernel) rfl, gw_at (i := 399) (by decide +kernel) rfl, by decide, by decide, by decide +kernel, by decide⟩
theorem okX7_mark : okM mdX7_mark 2 := ⟨gw_at (i := 66) (by decide +kernel) rfl, gw_at (i := 403) (by decide +kernel) rfl, by decide, by decide, by decide +kernel, by decide⟩
theorem okX7_takeFrom : okM mdX7_takeFrom 1 := ⟨gw_at (i := 66) (by decide +kernel) rfl, gw_at (i := 343) (by decide +kernel) rfl, by decide, by decide, by decide +kernel, by decide⟩
theorem okX7_tellNothing : okM mdX7_tellNothing 0 := ⟨gw_at (i := 66) (by decide +kernel) rfl, gw_at (i := 359) (by decide +kernel) rfl, by decide, by decide, by decide +kernel, by decide⟩
theorem okX8_allows : okM mdX8_allows 4 := ⟨gw_at (i := 67) (by decide +kernel) rfl, gw_at (i := 412) (by decide +kernel) rfl, by decide, by decide, by decide +kernel, by decide⟩
theorem okX8_append : okM mdX8_append 1 := ⟨gw_at (i := 67) (by decide +kernel) rfl, gw_at (i := 430) (by decide +kernel) rfl, by decide, by decide, by decide +kernel, by decide⟩
theorem okX8_arrange : okM mdX8_arrange 2 := ⟨gw_at (i := 67) (by decide +kernel) rfl, gw_at (i := 678) (by decide +kernel) rfl, by decide, by decide, by decide +kernel, by decide⟩
theorem okX8_isFull : okM mdX8_isFull 0 := ⟨gw_at (i := 67) (by decide +kernel) rfl, gw_at (i := 434) (by decide +kernel) rfl, by decide, by decide, by decide +kernel, by decide⟩
theorem okX8_isPossible : okM mdX8_isPossible 2 := ⟨gw_at (i := 67) (by decide +kernel) rfl, gw_at (i := 482) (by decide +kernel) rfl, by decide, by decide, by decide +kernel, by decide⟩
theorem okX8_numberOf : okM mdX8_numberOf 2 := ⟨gw_at (i := 67) (by decide +kernel) rfl, gw_at (i := 539) (by decide +kernel) rfl, by decide, by decide, by decide +kernel, by decide⟩
theorem okX8_remove : okM mdX8_remove 1 := ⟨gw_at (i := 67) (by decide +kernel) rfl, gw_at (i := 497) (by decide +kernel) rfl, by decide, by decide, by decide +kernel, by decide⟩
theorem okX8_takeFrom : okM mdX8_takeFrom 1 := ⟨gw_at (i := 67) (by decide +kernel) rfl, gw_at (i := 350) (by decide +kernel) rfl, by decide, by decide, by decide +kernel, by decide⟩
theorem okX9_append : okM mdX9_append 1 := ⟨gw_at (i := 70) (by decide +kernel) rfl, gw_at (i := 331) (by decide +kernel) rfl, by decide, by decide, by decide +kernel, by decide⟩
theorem okX9_beginsItem : okM mdX9_beginsItem 2 := ⟨gw_at (i := 70) (by decide +kernel) rfl, gw_at (i := 438) (by decide +kernel) rfl, by decide, by decide, by decide +kernel, by decide⟩
theorem okX9_endOfToken : okM mdX9_endOfToken 1 := ⟨gw_at (i := 70) (by decide +kernel) rfl, gw_at (i := 366) (by decide +kernel) rfl, by decide, by decide, by decide +kernel, by decide⟩
theorem okX9_endsItem : okM mdX9_endsItem 1 := ⟨gw_at (i := 70) (by decide +kernel) rfl, gw_at (i := 422) (by decide +kernel) rfl, by decide, by decide, by decide +kernel, by decide⟩
theorem okX9_isDigit : okM mdX9_isDigit 1 := ⟨gw_at (i := 70) (by decide +kernel) rfl, gw_at (i := 369) (by decide +kernel) rfl, by decide, by decide, by decide +kernel, by decide⟩
theorem okX9_isWhole : okM mdX9_isWhole 0 := ⟨gw_at (i := 70) (by decide +kernel) rfl, gw_at (i := 426) (by decide +kernel) rfl, by decide, by decide, by decide +kernel, by decide⟩
theorem okX9_readInto : okM mdX9_readInto 1 := ⟨gw_at (i := 70) (by decide +kernel) rfl, gw_at (i := 355) (by decide +kernel) rfl, by decide, by decide, by decide +kernel, by decide⟩
theorem okX9_takesMark : okM mdX9_takesMark 2 := ⟨gw_at (i := 70) (by decide +kernel) rfl, gw_at (i := 392) (by decide +kernel) rfl, by decide, by decide, by decide +kernel, by decide⟩
theorem okX9_takesNumber : okM mdX9_takesNumber 2 := ⟨gw_at (i := 70) (by decide +kernel) rfl, gw_at (i := 381) (by decide +kernel) rfl, by decide, by decide, by decide +kernel, by decide⟩
theorem okX9_takesPart : okM mdX9_takesPart 1 := ⟨gw_at (i := 70) (by decide +kernel) rfl, gw_at (i := 407) (by decide +kernel) rfl, by decide, by decide, by decide +kernel, by decide⟩
theorem okX9_takesSymbol : okM mdX9_takesSymbol 3 := ⟨gw_at (i := 70) (by decide +kernel) rfl, gw_at (i := 385) (by decide +kernel) rfl, by decide, by decide, by decide +kernel, by decide⟩
theorem okX9_takesToken : okM mdX9_takesToken 3 := ⟨gw_at (i := 70) (by decide +kernel) rfl, gw_at (i := 373) (by decide +kernel) rfl, by decide, by decide, by decide +kernel, by decide⟩
theorem okX9_valueOf : okM mdX9_valueOf 2 := ⟨gw_at (i := 70) (by decide +kernel) rfl, gw_at (i := 377) (by decide +kernel) rfl, by decide, by decide, by decide +kernel, by decide⟩
theorem vX0_18 : slk RX0 18 mdJ9_min_7cf53 2 := ⟨gw_at (i := 643) (by decide +kernel) rfl, gw_at (i := 102) (by decide +kernel) rfl, okJ9_min_7cf53⟩
theorem vX0_34 : vlk RX0 34 mdX0_swap 2 := ⟨gw_at (i := 666) (by decide +kernel) rfl, gw_at (i := 668) (by decide +kernel) rfl, gw_at (i := 25) (by decide +kernel) rfl, okX0_swap⟩
theorem vX10_103 : slk RX10 103 mdX10_isSpot 2 := ⟨gw_at (i := 454) (by decide +kernel) rfl, gw_at (i := 455) (by decide +kernel) rfl, okX10_isSpot⟩
theorem vX10_107 : slk RX10 107 mdX10_isSymbol 1 := ⟨gw_at (i := 458) (by decide +kernel) rfl, gw_at (i := 387) (by decide +kernel) rfl, okX10_isSymbol⟩
theorem vX10_113 : slk RX10 113 mdX10_isPlace 1 := ⟨gw_at (i := 457) (by decide +kernel) rfl, gw_at (i := 394) (by decide +kernel) rfl, okX10_isPlace⟩
theorem vX10_116 : vlk RX10 116 mdX7_isMarked 1 := ⟨gw_at (i := 463) (by decide +kernel) rfl, gw_at (i := 397) (by decide +kernel) rfl, gw_at (i := 398) (by decide +kernel) rfl, okX7_isMarked⟩
theorem vX10_119 : vlk RX10 119 mdX7_mark 2 := ⟨gw_at (i := 464) (by decide +kernel) rfl, gw_at (i := 401) (by decide +kernel) rfl, gw_at (i := 402) (by decide +kernel) rfl, okX7_mark⟩
theorem vX10_126 : slk RX10 126 mdJ6_bitCount_0f7a4 1 := ⟨gw_at (i := 465) (by decide +kernel) rfl, gw_at (i := 466) (by decide +kernel) rfl, okJ6_bitCount_0f7a4⟩
theorem vX10_132 : vlk RX10 132 mdX10_putStep 5 := ⟨gw_at (i := 475) (by decide +kernel) rfl, gw_at (i := 477) (by decide +kernel) rfl, gw_at (i := 10) (by decide +kernel) rfl, okX10_putStep⟩
theorem vX10_139 : slk RX10 139 mdX8_isPossible 2 := ⟨gw_at (i := 480) (by decide +kernel) rfl, gw_at (i := 481) (by decide +kernel) rfl, okX8_isPossible⟩
theorem vX10_147 : vlk RX10 147 mdX10_appendStep 1 := ⟨gw_at (i := 484) (by decide +kernel) rfl, gw_at (i := 486) (by decide +kernel) rfl, gw_at (i := 11) (by decide +kernel) rfl, okX10_appendStep⟩
theorem vX10_152 : vlk RX10 152 mdX8_remove 1 := ⟨gw_at (i := 494) (by decide +kernel) rfl, gw_at (i := 495) (by decide +kernel) rfl, gw_at (i := 496) (by decide +kernel) rfl, okX8_remove⟩
theorem vX10_162 : slk RX10 162 mdX10_isPair 2 := ⟨gw_at (i := 512) (by decide +kernel) rfl, gw_at (i := 513) (by decide +kernel) rfl, okX10_isPair⟩
theorem vX10_165 : vlk RX10 165 mdX10_findTaps 2 := ⟨gw_at (i := 515) (by decide +kernel) rfl, gw_at (i := 517) (by decide +kernel) rfl, gw_at (i := 12) (by decide +kernel) rfl, okX10_findTaps⟩
theorem vX10_168 : vlk RX10 168 mdX4_invert 0 := ⟨gw_at (i := 626) (by decide +kernel) rfl, gw_at (i := 588) (by decide +kernel) rfl, gw_at (i := 589) (by decide +kernel) rfl, okX4_invert⟩
theorem vX10_183 : vlk RX10 183 mdX10_findBestOrder 0 := ⟨gw_at (i := 635) (by decide +kernel) rfl, gw_at (i := 637) (by decide +kernel) rfl, gw_at (i := 23) (by decide +kernel) rfl, okX10_findBestOrder⟩
theorem vX10_187 : vlk RX10 187 mdX0_bestIsPresent 0 := ⟨gw_at (i := 670) (by decide +kernel) rfl, gw_at (i := 671) (by decide +kernel) rfl, gw_at (i := 672) (by decide +kernel) rfl, okX0_bestIsPresent⟩
theorem vX10_191 : vlk RX10 191 mdX8_takeFrom 1 := ⟨gw_at (i := 674) (by decide +kernel) rfl, gw_at (i := 348) (by decide +kernel) rfl, gw_at (i := 349) (by decide +kernel) rfl, okX8_takeFrom⟩
theorem vX10_197 : vlk RX10 197 mdX8_arrange 2 := ⟨gw_at (i := 675) (by decide +kernel) rfl, gw_at (i := 676) (by decide +kernel) rfl, gw_at (i := 677) (by decide +kernel) rfl, okX8_arrange⟩
theorem vX10_201 : vlk RX10 201 mdX10_errorsAfter 1 := ⟨gw_at (i := 683) (by decide +kernel) rfl, gw_at (i := 685) (by decide +kernel) rfl, gw_at (i := 26) (by decide +kernel) rfl, okX10_errorsAfter⟩
theorem vX10_214 : vlk RX10 214 mdX3_restore 1 := ⟨gw_at (i := 693) (by decide +kernel) rfl, gw_at (i := 694) (by decide +kernel) rfl, gw_at (i := 695) (by decide +kernel) rfl, okX3_restore⟩
theorem vX10_217 : vlk RX10 217 mdX1_receive 2 := ⟨gw_at (i := 519) (by decide +kernel) rfl, gw_at (i := 520) (by decide +kernel) rfl, gw_at (i := 521) (by decide +kernel) rfl, okX1_receive⟩
theorem vX10_224 : slk RX10 224 mdX2_decided 1 := ⟨gw_at (i := 704) (by decide +kernel) rfl, gw_at (i := 621) (by decide +kernel) rfl, okX2_decided⟩
theorem vX10_229 : vlk RX10 229 mdX8_numberOf 2 := ⟨gw_at (i := 709) (by decide +kernel) rfl, gw_at (i := 537) (by decide +kernel) rfl, gw_at (i := 538) (by decide +kernel) rfl, okX8_numberOf⟩
theorem vX10_234 : vlk RX10 234 mdX4_entry 1 := ⟨gw_at (i := 727) (by decide +kernel) rfl, gw_at (i := 728) (by decide +kernel) rfl, gw_at (i := 729) (by decide +kernel) rfl, okX4_entry⟩
theorem vX10_237 : vlk RX10 237 mdX1_takeFrom 1 := ⟨gw_at (i := 648) (by decide +kernel) rfl, gw_at (i := 649) (by decide +kernel) rfl, gw_at (i := 650) (by decide +kernel) rfl, okX1_takeFrom⟩
theorem vX10_240 : vlk RX10 240 mdX1_late 1 := ⟨gw_at (i := 735) (by decide +kernel) rfl, gw_at (i := 565) (by decide +kernel) rfl, gw_at (i := 566) (by decide +kernel) rfl, okX1_late⟩
theorem vX10_243 : vlk RX10 243 mdX1_errorsAtMarks 1 := ⟨gw_at (i := 736) (by decide +kernel) rfl, gw_at (i := 737) (by decide +kernel) rfl, gw_at (i := 738) (by decide +kernel) rfl, okX1_errorsAtMarks⟩
theorem vX10_246 : slk RX10 246 mdX2_power 2 := ⟨gw_at (i := 744) (by decide +kernel) rfl, gw_at (i := 414) (by decide +kernel) rfl, okX2_power⟩
theorem vX10_249 : vlk RX10 249 mdX10_unspreadFits 1 := ⟨gw_at (i := 745) (by decide +kernel) rfl, gw_at (i := 747) (by decide +kernel) rfl, gw_at (i := 27) (by decide +kernel) rfl, okX10_unspreadFits⟩
theorem vX10_252 : vlk RX10 252 mdX6_append 2 := ⟨gw_at (i := 762) (by decide +kernel) rfl, gw_at (i := 763) (by decide +kernel) rfl, gw_at (i := 764) (by decide +kernel) rfl, okX6_append⟩
theorem vX10_254 : vlk RX10 254 mdX10_slipFits 2 := ⟨gw_at (i := 774) (by decide +kernel) rfl, gw_at (i := 776) (by decide +kernel) rfl, gw_at (i := 28) (by decide +kernel) rfl, okX10_slipFits⟩
theorem vX10_257 : slk RX10 257 mdX5_power 2 := ⟨gw_at (i := 788) (by decide +kernel) rfl, gw_at (i := 789) (by decide +kernel) rfl, okX5_power⟩
theorem vX10_260 : slk RX10 260 mdX5_atMost 3 := ⟨gw_at (i := 791) (by decide +kernel) rfl, gw_at (i := 792) (by decide +kernel) rfl, okX5_atMost⟩
theorem vX10_264 : slk RX10 264 mdX5_commonDivisor 2 := ⟨gw_at (i := 795) (by decide +kernel) rfl, gw_at (i := 796) (by decide +kernel) rfl, okX5_commonDivisor⟩
theorem vX10_267 : slk RX10 267 mdJ9_max_7cf53 2 := ⟨gw_at (i := 801) (by decide +kernel) rfl, gw_at (i := 698) (by decide +kernel) rfl, okJ9_max_7cf53⟩
theorem vX10_272 : vlk RX10 272 mdX8_isFull 0 := ⟨gw_at (i := 488) (by decide +kernel) rfl, gw_at (i := 432) (by decide +kernel) rfl, gw_at (i := 433) (by decide +kernel) rfl, okX8_isFull⟩
theorem vX10_275 : vlk RX10 275 mdX8_append 1 := ⟨gw_at (i := 489) (by decide +kernel) rfl, gw_at (i := 428) (by decide +kernel) rfl, gw_at (i := 429) (by decide +kernel) rfl, okX8_append⟩
theorem vX10_278 : vlk RX10 278 mdX1_errors 1 := ⟨gw_at (i := 653) (by decide +kernel) rfl, gw_at (i := 654) (by decide +kernel) rfl, gw_at (i := 655) (by decide +kernel) rfl, okX1_errors⟩
theorem vX10_281 : vlk RX10 281 mdX1_unspread 1 := ⟨gw_at (i := 749) (by decide +kernel) rfl, gw_at (i := 578) (by decide +kernel) rfl, gw_at (i := 579) (by decide +kernel) rfl, okX1_unspread⟩
theorem vX10_284 : vlk RX10 284 mdX1_slip 2 := ⟨gw_at (i := 778) (by decide +kernel) rfl, gw_at (i := 554) (by decide +kernel) rfl, gw_at (i := 555) (by decide +kernel) rfl, okX1_slip⟩
theorem vX10_288 : vlk RX10 288 mdX1_passStage 2 := ⟨gw_at (i := 652) (by decide +kernel) rfl, gw_at (i := 574) (by decide +kernel) rfl, gw_at (i := 575) (by decide +kernel) rfl, okX1_passStage⟩
theorem vX10_291 : vlk RX10 291 mdX6_areTrueOf 1 := ⟨gw_at (i := 779) (by decide +kernel) rfl, gw_at (i := 780) (by decide +kernel) rfl, gw_at (i := 781) (by decide +kernel) rfl, okX6_areTrueOf⟩
theorem vX10_295 : vlk RX10 295 mdX4_put 4 := ⟨gw_at (i := 623) (by decide +kernel) rfl, gw_at (i := 545) (by decide +kernel) rfl, gw_at (i := 546) (by decide +kernel) rfl, okX4_put⟩
theorem vX10_299 : slk RX10 299 mdX2_light 1 := ⟨gw_at (i := 624) (by decide +kernel) rfl, gw_at (i := 528) (by decide +kernel) rfl, okX2_light⟩
theorem vX10_302 : vlk RX10 302 mdX4_determinant 0 := ⟨gw_at (i := 625) (by decide +kernel) rfl, gw_at (i := 592) (by decide +kernel) rfl, gw_at (i := 593) (by decide +kernel) rfl, okX4_determinant⟩
theorem vX10_305 : vlk RX10 305 mdX4_multiplyFromLeft 1 := ⟨gw_at (i := 627) (by decide +kernel) rfl, gw_at (i := 628) (by decide +kernel) rfl, gw_at (i := 629) (by decide +kernel) rfl, okX4_multiplyFromLeft⟩
theorem vX10_309 : vlk RX10 309 mdX0_start 1 := ⟨gw_at (i := 639) (by decide +kernel) rfl, gw_at (i := 640) (by decide +kernel) rfl, gw_at (i := 641) (by decide +kernel) rfl, okX0_start⟩
theorem vX10_315 : vlk RX10 315 mdX10_errorsInOrder 1 := ⟨gw_at (i := 644) (by decide +kernel) rfl, gw_at (i := 646) (by decide +kernel) rfl, gw_at (i := 24) (by decide +kernel) rfl, okX10_errorsInOrder⟩
theorem vX10_319 : vlk RX10 319 mdX0_keepCurrent 0 := ⟨gw_at (i := 657) (by decide +kernel) rfl, gw_at (i := 658) (by decide +kernel) rfl, gw_at (i := 659) (by decide +kernel) rfl, okX0_keepCurrent⟩
theorem vX10_322 : vlk RX10 322 mdX0_moveOn 0 := ⟨gw_at (i := 662) (by decide +kernel) rfl, gw_at (i := 663) (by decide +kernel) rfl, gw_at (i := 664) (by decide +kernel) rfl, okX0_moveOn⟩
theorem vX10_81 : vlk RX10 81 mdX9_append 1 := ⟨gw_at (i := 328) (by decide +kernel) rfl, gw_at (i := 329) (by decide +kernel) rfl, gw_at (i := 330) (by decide +kernel) rfl, okX9_append⟩
theorem vX10_89 : vlk RX10 89 mdX7_takeFrom 1 := ⟨gw_at (i := 340) (by decide +kernel) rfl, gw_at (i := 341) (by decide +kernel) rfl, gw_at (i := 342) (by decide +kernel) rfl, okX7_takeFrom⟩
theorem vX10_93 : vlk RX10 93 mdX9_readInto 1 := ⟨gw_at (i := 352) (by decide +kernel) rfl, gw_at (i := 353) (by decide +kernel) rfl, gw_at (i := 354) (by decide +kernel) rfl, okX9_readInto⟩
theorem vX10_97 : vlk RX10 97 mdX3_remember 1 := ⟨gw_at (i := 444) (by decide +kernel) rfl, gw_at (i := 445) (by decide +kernel) rfl, gw_at (i := 446) (by decide +kernel) rfl, okX3_remember⟩
theorem vX11_112 : vlk RX11 112 mdX11_next 0 := ⟨gw_at (i := 931) (by decide +kernel) rfl, gw_at (i := 933) (by decide +kernel) rfl, gw_at (i := 29) (by decide +kernel) rfl, okX11_next⟩
theorem vX11_115 : vlk RX11 115 mdX11_must 1 := ⟨gw_at (i := 939) (by decide +kernel) rfl, gw_at (i := 941) (by decide +kernel) rfl, gw_at (i := 31) (by decide +kernel) rfl, okX11_must⟩
theorem vX11_123 : slk RX11 123 mdX11_has 2 := ⟨gw_at (i := 947) (by decide +kernel) rfl, gw_at (i := 948) (by decide +kernel) rfl, okX11_has⟩
theorem vX11_127 : vlk RX11 127 mdX11_readMarks 0 := ⟨gw_at (i := 943) (by decide +kernel) rfl, gw_at (i := 945) (by decide +kernel) rfl, gw_at (i := 32) (by decide +kernel) rfl, okX11_readMarks⟩
theorem vX11_130 : vlk RX11 130 mdX11_readDeed 0 := ⟨gw_at (i := 950) (by decide +kernel) rfl, gw_at (i := 952) (by decide +kernel) rfl, gw_at (i := 33) (by decide +kernel) rfl, okX11_readDeed⟩
theorem vX11_133 : vlk RX11 133 mdX11_readRow 1 := ⟨gw_at (i := 963) (by decide +kernel) rfl, gw_at (i := 965) (by decide +kernel) rfl, gw_at (i := 34) (by decide +kernel) rfl, okX11_readRow⟩
theorem vX11_137 : vlk RX11 137 mdX11_readItem 0 := ⟨gw_at (i := 935) (by decide +kernel) rfl, gw_at (i := 937) (by decide +kernel) rfl, gw_at (i := 30) (by decide +kernel) rfl, okX11_readItem⟩
theorem vX11_140 : vlk RX11 140 mdX11_note 0 := ⟨gw_at (i := 967) (by decide +kernel) rfl, gw_at (i := 969) (by decide +kernel) rfl, gw_at (i := 35) (by decide +kernel) rfl, okX11_note⟩
theorem vX11_146 : vlk RX11 146 mdX11_marksMany 0 := ⟨gw_at (i := 979) (by decide +kernel) rfl, gw_at (i := 981) (by decide +kernel) rfl, gw_at (i := 36) (by decide +kernel) rfl, okX11_marksMany⟩
theorem vX11_150 : vlk RX11 150 mdX11_lay 6 := ⟨gw_at (i := 990) (by decide +kernel) rfl, gw_at (i := 992) (by decide +kernel) rfl, gw_at (i := 37) (by decide +kernel) rfl, okX11_lay⟩
theorem vX11_154 : vlk RX11 154 mdX11_takeMade 0 := ⟨gw_at (i := 1039) (by decide +kernel) rfl, gw_at (i := 1041) (by decide +kernel) rfl, gw_at (i := 43) (by decide +kernel) rfl, okX11_takeMade⟩
theorem vX11_157 : slk RX11 157 mdX11_inverse 1 := ⟨gw_at (i := 1067) (by decide +kernel) rfl, gw_at (i := 1068) (by decide +kernel) rfl, okX11_inverse⟩
theorem vX11_160 : vlk RX11 160 mdX11_twist 4 := ⟨gw_at (i := 1043) (by decide +kernel) rfl, gw_at (i := 1045) (by decide +kernel) rfl, gw_at (i := 44) (by decide +kernel) rfl, okX11_twist⟩
theorem vX11_164 : slk RX11 164 mdX11_isLight 1 := ⟨gw_at (i := 1078) (by decide +kernel) rfl, gw_at (i := 1079) (by decide +kernel) rfl, okX11_isLight⟩
theorem vX11_168 : slk RX11 168 mdX11_decided 1 := ⟨gw_at (i := 1085) (by decide +kernel) rfl, gw_at (i := 1086) (by decide +kernel) rfl, okX11_decided⟩
theorem vX11_171 : vlk RX11 171 mdX11_mendFrom 2 := ⟨gw_at (i := 1088) (by decide +kernel) rfl, gw_at (i := 1090) (by decide +kernel) rfl, gw_at (i := 53) (by decide +kernel) rfl, okX11_mendFrom⟩
theorem vX11_175 : vlk RX11 175 mdX11_spread 1 := ⟨gw_at (i := 1035) (by decide +kernel) rfl, gw_at (i := 1037) (by decide +kernel) rfl, gw_at (i := 42) (by decide +kernel) rfl, okX11_spread⟩
theorem vX11_178 : vlk RX11 178 mdX11_slip 2 := ⟨gw_at (i := 1047) (by decide +kernel) rfl, gw_at (i := 1049) (by decide +kernel) rfl, gw_at (i := 45) (by decide +kernel) rfl, okX11_slip⟩
theorem vX11_181 : vlk RX11 181 mdX11_late 1 := ⟨gw_at (i := 1051) (by decide +kernel) rfl, gw_at (i := 1053) (by decide +kernel) rfl, gw_at (i := 46) (by decide +kernel) rfl, okX11_late⟩
theorem vX11_184 : vlk RX11 184 mdX11_unspread 1 := ⟨gw_at (i := 1063) (by decide +kernel) rfl, gw_at (i := 1065) (by decide +kernel) rfl, gw_at (i := 49) (by decide +kernel) rfl, okX11_unspread⟩
theorem vX11_187 : vlk RX11 187 mdX11_untwist 4 := ⟨gw_at (i := 1070) (by decide +kernel) rfl, gw_at (i := 1072) (by decide +kernel) rfl, gw_at (i := 50) (by decide +kernel) rfl, okX11_untwist⟩
theorem vX11_190 : vlk RX11 190 mdX11_blind 0 := ⟨gw_at (i := 1074) (by decide +kernel) rfl, gw_at (i := 1076) (by decide +kernel) rfl, gw_at (i := 51) (by decide +kernel) rfl, okX11_blind⟩
theorem vX11_193 : vlk RX11 193 mdX11_mend 0 := ⟨gw_at (i := 1081) (by decide +kernel) rfl, gw_at (i := 1083) (by decide +kernel) rfl, gw_at (i := 52) (by decide +kernel) rfl, okX11_mend⟩
theorem vX11_196 : vlk RX11 196 mdX11_doDeed 1 := ⟨gw_at (i := 1031) (by decide +kernel) rfl, gw_at (i := 1033) (by decide +kernel) rfl, gw_at (i := 41) (by decide +kernel) rfl, okX11_doDeed⟩
theorem vX11_199 : vlk RX11 199 mdX11_doStage 1 := ⟨gw_at (i := 1059) (by decide +kernel) rfl, gw_at (i := 1061) (by decide +kernel) rfl, gw_at (i := 48) (by decide +kernel) rfl, okX11_doStage⟩
theorem vX11_202 : vlk RX11 202 mdX11_layAir 0 := ⟨gw_at (i := 1024) (by decide +kernel) rfl, gw_at (i := 1026) (by decide +kernel) rfl, gw_at (i := 40) (by decide +kernel) rfl, okX11_layAir⟩
theorem vX11_205 : vlk RX11 205 mdX11_goThrough 1 := ⟨gw_at (i := 1055) (by decide +kernel) rfl, gw_at (i := 1057) (by decide +kernel) rfl, gw_at (i := 47) (by decide +kernel) rfl, okX11_goThrough⟩
theorem vX11_208 : vlk RX11 208 mdX11_layReceived 0 := ⟨gw_at (i := 1020) (by decide +kernel) rfl, gw_at (i := 1022) (by decide +kernel) rfl, gw_at (i := 39) (by decide +kernel) rfl, okX11_layReceived⟩
theorem vX11_211 : vlk RX11 211 mdX11_wrongNow 0 := ⟨gw_at (i := 1108) (by decide +kernel) rfl, gw_at (i := 1110) (by decide +kernel) rfl, gw_at (i := 56) (by decide +kernel) rfl, okX11_wrongNow⟩
theorem vX11_214 : slk RX11 214 mdX11_isStage 5 := ⟨gw_at (i := 1002) (by decide +kernel) rfl, gw_at (i := 1003) (by decide +kernel) rfl, okX11_isStage⟩
theorem vX11_223 : vlk RX11 223 mdX11_findTaps 3 := ⟨gw_at (i := 1092) (by decide +kernel) rfl, gw_at (i := 1094) (by decide +kernel) rfl, gw_at (i := 54) (by decide +kernel) rfl, okX11_findTaps⟩
theorem vX11_226 : slk RX11 226 mdX11_arePlaces 2 := ⟨gw_at (i := 1013) (by decide +kernel) rfl, gw_at (i := 1014) (by decide +kernel) rfl, okX11_arePlaces⟩
theorem vX11_229 : vlk RX11 229 mdX11_areTaps 2 := ⟨gw_at (i := 1016) (by decide +kernel) rfl, gw_at (i := 1018) (by decide +kernel) rfl, gw_at (i := 38) (by decide +kernel) rfl, okX11_areTaps⟩
theorem vX11_232 : vlk RX11 232 mdX11_swap 2 := ⟨gw_at (i := 1116) (by decide +kernel) rfl, gw_at (i := 1118) (by decide +kernel) rfl, gw_at (i := 58) (by decide +kernel) rfl, okX11_swap⟩
theorem vX11_238 : vlk RX11 238 mdX11_turnsOn 1 := ⟨gw_at (i := 1112) (by decide +kernel) rfl, gw_at (i := 1114) (by decide +kernel) rfl, gw_at (i := 57) (by decide +kernel) rfl, okX11_turnsOn⟩
theorem vX11_241 : vlk RX11 241 mdX11_findOrder 0 := ⟨gw_at (i := 1104) (by decide +kernel) rfl, gw_at (i := 1106) (by decide +kernel) rfl, gw_at (i := 55) (by decide +kernel) rfl, okX11_findOrder⟩
theorem vX11_244 : vlk RX11 244 mdX11_wrongReceived 0 := ⟨gw_at (i := 1128) (by decide +kernel) rfl, gw_at (i := 1130) (by decide +kernel) rfl, gw_at (i := 59) (by decide +kernel) rfl, okX11_wrongReceived⟩
theorem vX11_250 : vlk RX11 250 mdX11_keepReceived 0 := ⟨gw_at (i := 1159) (by decide +kernel) rfl, gw_at (i := 1161) (by decide +kernel) rfl, gw_at (i := 60) (by decide +kernel) rfl, okX11_keepReceived⟩
theorem vX11_253 : vlk RX11 253 mdX11_layKept 0 := ⟨gw_at (i := 1163) (by decide +kernel) rfl, gw_at (i := 1165) (by decide +kernel) rfl, gw_at (i := 61) (by decide +kernel) rfl, okX11_layKept⟩
theorem vX11_256 : vlk RX11 256 mdX11_wrongAtMarks 0 := ⟨gw_at (i := 1167) (by decide +kernel) rfl, gw_at (i := 1169) (by decide +kernel) rfl, gw_at (i := 62) (by decide +kernel) rfl, okX11_wrongAtMarks⟩
theorem vX11_259 : vlk RX11 259 mdX11_isSeenBy 2 := ⟨gw_at (i := 1191) (by decide +kernel) rfl, gw_at (i := 1193) (by decide +kernel) rfl, gw_at (i := 63) (by decide +kernel) rfl, okX11_isSeenBy⟩
theorem vX11_63 : slk RX11 63 mdX11_power 2 := ⟨gw_at (i := 957) (by decide +kernel) rfl, gw_at (i := 958) (by decide +kernel) rfl, okX11_power⟩
theorem vX11_67 : slk RX11 67 mdX11_light 1 := ⟨gw_at (i := 1028) (by decide +kernel) rfl, gw_at (i := 1029) (by decide +kernel) rfl, okX11_light⟩
theorem vX11_71 : slk RX11 71 mdX11_left 1 := ⟨gw_at (i := 960) (by decide +kernel) rfl, gw_at (i := 961) (by decide +kernel) rfl, okX11_left⟩
theorem vX11_82 : slk RX11 82 mdX11_in 3 := ⟨gw_at (i := 920) (by decide +kernel) rfl, gw_at (i := 921) (by decide +kernel) rfl, okX11_in⟩
theorem vX11_86 : slk RX11 86 mdX11_mayBe 6 := ⟨gw_at (i := 954) (by decide +kernel) rfl, gw_at (i := 955) (by decide +kernel) rfl, okX11_mayBe⟩
theorem vX11_90 : slk RX11 90 mdX11_isDeed 5 := ⟨gw_at (i := 987) (by decide +kernel) rfl, gw_at (i := 988) (by decide +kernel) rfl, okX11_isDeed⟩
theorem vX1_101 : vlk RX1 101 mdX1_brightestFactor 0 := ⟨gw_at (i := 597) (by decide +kernel) rfl, gw_at (i := 599) (by decide +kernel) rfl, gw_at (i := 19) (by decide +kernel) rfl, okX1_brightestFactor⟩
theorem vX1_105 : vlk RX1 105 mdX1_multiply 1 := ⟨gw_at (i := 602) (by decide +kernel) rfl, gw_at (i := 604) (by decide +kernel) rfl, gw_at (i := 20) (by decide +kernel) rfl, okX1_multiply⟩
theorem vX1_108 : vlk RX1 108 mdX1_mend 1 := ⟨gw_at (i := 606) (by decide +kernel) rfl, gw_at (i := 608) (by decide +kernel) rfl, gw_at (i := 21) (by decide +kernel) rfl, okX1_mend⟩
theorem vX1_111 : slk RX1 111 mdX2_power 2 := ⟨gw_at (i := 581) (by decide +kernel) rfl, gw_at (i := 414) (by decide +kernel) rfl, okX2_power⟩
theorem vX1_114 : slk RX1 114 mdJ9_floorMod_7cf53 2 := ⟨gw_at (i := 582) (by decide +kernel) rfl, gw_at (i := 417) (by decide +kernel) rfl, okJ9_floorMod_7cf53⟩
theorem vX1_119 : slk RX1 119 mdX2_inverse 1 := ⟨gw_at (i := 583) (by decide +kernel) rfl, gw_at (i := 584) (by decide +kernel) rfl, okX2_inverse⟩
theorem vX1_134 : vlk RX1 134 mdX1_turn 2 := ⟨gw_at (i := 557) (by decide +kernel) rfl, gw_at (i := 559) (by decide +kernel) rfl, gw_at (i := 17) (by decide +kernel) rfl, okX1_turn⟩
theorem vX1_137 : slk RX1 137 mdX2_turned 2 := ⟨gw_at (i := 561) (by decide +kernel) rfl, gw_at (i := 562) (by decide +kernel) rfl, okX2_turned⟩
theorem vX1_140 : slk RX1 140 mdJ7_fill_53178 2 := ⟨gw_at (i := 601) (by decide +kernel) rfl, gw_at (i := 361) (by decide +kernel) rfl, okJ7_fill_53178⟩
theorem vX1_146 : vlk RX1 146 mdX7_firstMarked 0 := ⟨gw_at (i := 610) (by decide +kernel) rfl, gw_at (i := 611) (by decide +kernel) rfl, gw_at (i := 612) (by decide +kernel) rfl, okX7_firstMarked⟩
theorem vX1_149 : vlk RX1 149 mdX7_isMarked 1 := ⟨gw_at (i := 615) (by decide +kernel) rfl, gw_at (i := 397) (by decide +kernel) rfl, gw_at (i := 398) (by decide +kernel) rfl, okX7_isMarked⟩
theorem vX1_153 : vlk RX1 153 mdX1_bestTurn 2 := ⟨gw_at (i := 616) (by decide +kernel) rfl, gw_at (i := 618) (by decide +kernel) rfl, gw_at (i := 22) (by decide +kernel) rfl, okX1_bestTurn⟩
theorem vX1_157 : slk RX1 157 mdX2_decided 1 := ⟨gw_at (i := 620) (by decide +kernel) rfl, gw_at (i := 621) (by decide +kernel) rfl, okX2_decided⟩
theorem vX1_34 : vlk RX1 34 mdX1_shine 1 := ⟨gw_at (i := 523) (by decide +kernel) rfl, gw_at (i := 525) (by decide +kernel) rfl, gw_at (i := 13) (by decide +kernel) rfl, okX1_shine⟩
theorem vX1_50 : vlk RX1 50 mdX1_passDeed 2 := ⟨gw_at (i := 532) (by decide +kernel) rfl, gw_at (i := 534) (by decide +kernel) rfl, gw_at (i := 14) (by decide +kernel) rfl, okX1_passDeed⟩
theorem vX1_54 : vlk RX1 54 mdX1_passStage 2 := ⟨gw_at (i := 573) (by decide +kernel) rfl, gw_at (i := 574) (by decide +kernel) rfl, gw_at (i := 575) (by decide +kernel) rfl, okX1_passStage⟩
theorem vX1_61 : slk RX1 61 mdX2_light 1 := ⟨gw_at (i := 527) (by decide +kernel) rfl, gw_at (i := 528) (by decide +kernel) rfl, okX2_light⟩
theorem vX1_67 : vlk RX1 67 mdX8_numberOf 2 := ⟨gw_at (i := 536) (by decide +kernel) rfl, gw_at (i := 537) (by decide +kernel) rfl, gw_at (i := 538) (by decide +kernel) rfl, okX8_numberOf⟩
theorem vX1_71 : vlk RX1 71 mdX1_spread 1 := ⟨gw_at (i := 540) (by decide +kernel) rfl, gw_at (i := 542) (by decide +kernel) rfl, gw_at (i := 15) (by decide +kernel) rfl, okX1_spread⟩
theorem vX1_75 : vlk RX1 75 mdX4_put 4 := ⟨gw_at (i := 544) (by decide +kernel) rfl, gw_at (i := 545) (by decide +kernel) rfl, gw_at (i := 546) (by decide +kernel) rfl, okX4_put⟩
theorem vX1_79 : vlk RX1 79 mdX1_twist 0 := ⟨gw_at (i := 549) (by decide +kernel) rfl, gw_at (i := 551) (by decide +kernel) rfl, gw_at (i := 16) (by decide +kernel) rfl, okX1_twist⟩
theorem vX1_82 : vlk RX1 82 mdX1_slip 2 := ⟨gw_at (i := 553) (by decide +kernel) rfl, gw_at (i := 554) (by decide +kernel) rfl, gw_at (i := 555) (by decide +kernel) rfl, okX1_slip⟩
theorem vX1_86 : vlk RX1 86 mdX1_late 1 := ⟨gw_at (i := 564) (by decide +kernel) rfl, gw_at (i := 565) (by decide +kernel) rfl, gw_at (i := 566) (by decide +kernel) rfl, okX1_late⟩
theorem vX1_89 : vlk RX1 89 mdX1_hit 2 := ⟨gw_at (i := 569) (by decide +kernel) rfl, gw_at (i := 571) (by decide +kernel) rfl, gw_at (i := 18) (by decide +kernel) rfl, okX1_hit⟩
theorem vX1_95 : vlk RX1 95 mdX1_unspread 1 := ⟨gw_at (i := 577) (by decide +kernel) rfl, gw_at (i := 578) (by decide +kernel) rfl, gw_at (i := 579) (by decide +kernel) rfl, okX1_unspread⟩
theorem vX1_98 : vlk RX1 98 mdX4_invert 0 := ⟨gw_at (i := 587) (by decide +kernel) rfl, gw_at (i := 588) (by decide +kernel) rfl, gw_at (i := 589) (by decide +kernel) rfl, okX4_invert⟩
theorem vX2_15 : slk RX2 15 mdX2_power 2 := ⟨gw_at (i := 586) (by decide +kernel) rfl, gw_at (i := 414) (by decide +kernel) rfl, okX2_power⟩
theorem vX3_22 : vlk RX3 22 mdX7_takeFrom 1 := ⟨gw_at (i := 448) (by decide +kernel) rfl, gw_at (i := 341) (by decide +kernel) rfl, gw_at (i := 342) (by decide +kernel) rfl, okX7_takeFrom⟩
theorem vX3_29 : slk RX3 29 mdJ9_min_7cf53 2 := ⟨gw_at (i := 449) (by decide +kernel) rfl, gw_at (i := 102) (by decide +kernel) rfl, okJ9_min_7cf53⟩
theorem vX3_35 : slk RX3 35 mdJ9_max_7cf53 2 := ⟨gw_at (i := 697) (by decide +kernel) rfl, gw_at (i := 698) (by decide +kernel) rfl, okJ9_max_7cf53⟩
theorem vX4_30 : vlk RX4 30 mdX4_determinant 0 := ⟨gw_at (i := 591) (by decide +kernel) rfl, gw_at (i := 592) (by decide +kernel) rfl, gw_at (i := 593) (by decide +kernel) rfl, okX4_determinant⟩
theorem vX4_34 : slk RX4 34 mdX2_inverse 1 := ⟨gw_at (i := 595) (by decide +kernel) rfl, gw_at (i := 584) (by decide +kernel) rfl, okX2_inverse⟩
theorem vX4_40 : vlk RX4 40 mdX4_put 4 := ⟨gw_at (i := 596) (by decide +kernel) rfl, gw_at (i := 545) (by decide +kernel) rfl, gw_at (i := 546) (by decide +kernel) rfl, okX4_put⟩
theorem vX4_9 : slk RX4 9 mdJ9_floorMod_7cf53 2 := ⟨gw_at (i := 548) (by decide +kernel) rfl, gw_at (i := 417) (by decide +kernel) rfl, okJ9_floorMod_7cf53⟩
theorem vX5_13 : slk RX5 13 mdX5_sharedPower 3 := ⟨gw_at (i := 798) (by decide +kernel) rfl, gw_at (i := 799) (by decide +kernel) rfl, okX5_sharedPower⟩
theorem vX5_7 : slk RX5 7 mdX5_power 2 := ⟨gw_at (i := 794) (by decide +kernel) rfl, gw_at (i := 789) (by decide +kernel) rfl, okX5_power⟩
theorem vX6_27 : slk RX6 27 mdX2_decided 1 := ⟨gw_at (i := 783) (by decide +kernel) rfl, gw_at (i := 621) (by decide +kernel) rfl, okX2_decided⟩
theorem vX7_31 : slk RX7 31 mdJ7_fill_53178 2 := ⟨gw_at (i := 360) (by decide +kernel) rfl, gw_at (i := 361) (by decide +kernel) rfl, okJ7_fill_53178⟩
theorem vX7_40 : vlk RX7 40 mdX7_isMarked 1 := ⟨gw_at (i := 614) (by decide +kernel) rfl, gw_at (i := 397) (by decide +kernel) rfl, gw_at (i := 398) (by decide +kernel) rfl, okX7_isMarked⟩
theorem vX7_50 : vlk RX7 50 mdX8_takeFrom 1 := ⟨gw_at (i := 347) (by decide +kernel) rfl, gw_at (i := 348) (by decide +kernel) rfl, gw_at (i := 349) (by decide +kernel) rfl, okX8_takeFrom⟩
theorem vX8_25 : slk RX8 25 mdX8_allows 4 := ⟨gw_at (i := 483) (by decide +kernel) rfl, gw_at (i := 411) (by decide +kernel) rfl, okX8_allows⟩
theorem vX8_29 : slk RX8 29 mdX2_power 2 := ⟨gw_at (i := 413) (by decide +kernel) rfl, gw_at (i := 414) (by decide +kernel) rfl, okX2_power⟩
theorem vX8_34 : slk RX8 34 mdJ9_floorMod_7cf53 2 := ⟨gw_at (i := 416) (by decide +kernel) rfl, gw_at (i := 417) (by decide +kernel) rfl, okJ9_floorMod_7cf53⟩
theorem vX8_40 : vlk RX8 40 mdX8_isFull 0 := ⟨gw_at (i := 431) (by decide +kernel) rfl, gw_at (i := 432) (by decide +kernel) rfl, gw_at (i := 433) (by decide +kernel) rfl, okX8_isFull⟩
theorem vX9_102 : vlk RX9 102 mdX7_isMarked 1 := ⟨gw_at (i := 396) (by decide +kernel) rfl, gw_at (i := 397) (by decide +kernel) rfl, gw_at (i := 398) (by decide +kernel) rfl, okX7_isMarked⟩
theorem vX9_105 : vlk RX9 105 mdX7_mark 2 := ⟨gw_at (i := 400) (by decide +kernel) rfl, gw_at (i := 401) (by decide +kernel) rfl, gw_at (i := 402) (by decide +kernel) rfl, okX7_mark⟩
theorem vX9_112 : slk RX9 112 mdX8_allows 4 := ⟨gw_at (i := 410) (by decide +kernel) rfl, gw_at (i := 411) (by decide +kernel) rfl, okX8_allows⟩
theorem vX9_116 : vlk RX9 116 mdX9_isWhole 0 := ⟨gw_at (i := 423) (by decide +kernel) rfl, gw_at (i := 425) (by decide +kernel) rfl, gw_at (i := 8) (by decide +kernel) rfl, okX9_isWhole⟩
theorem vX9_119 : vlk RX9 119 mdX8_append 1 := ⟨gw_at (i := 427) (by decide +kernel) rfl, gw_at (i := 428) (by decide +kernel) rfl, gw_at (i := 429) (by decide +kernel) rfl, okX8_append⟩
theorem vX9_24 : vlk RX9 24 mdX7_tellNothing 0 := ⟨gw_at (i := 356) (by decide +kernel) rfl, gw_at (i := 357) (by decide +kernel) rfl, gw_at (i := 358) (by decide +kernel) rfl, okX7_tellNothing⟩
theorem vX9_39 : vlk RX9 39 mdX9_endOfToken 1 := ⟨gw_at (i := 363) (by decide +kernel) rfl, gw_at (i := 365) (by decide +kernel) rfl, gw_at (i := 0) (by decide +kernel) rfl, okX9_endOfToken⟩
theorem vX9_43 : vlk RX9 43 mdX9_takesToken 3 := ⟨gw_at (i := 370) (by decide +kernel) rfl, gw_at (i := 372) (by decide +kernel) rfl, gw_at (i := 1) (by decide +kernel) rfl, okX9_takesToken⟩
theorem vX9_47 : slk RX9 47 mdX9_isDigit 1 := ⟨gw_at (i := 367) (by decide +kernel) rfl, gw_at (i := 368) (by decide +kernel) rfl, okX9_isDigit⟩
theorem vX9_51 : vlk RX9 51 mdX9_valueOf 2 := ⟨gw_at (i := 374) (by decide +kernel) rfl, gw_at (i := 376) (by decide +kernel) rfl, gw_at (i := 2) (by decide +kernel) rfl, okX9_valueOf⟩
theorem vX9_55 : vlk RX9 55 mdX9_takesNumber 2 := ⟨gw_at (i := 378) (by decide +kernel) rfl, gw_at (i := 380) (by decide +kernel) rfl, gw_at (i := 3) (by decide +kernel) rfl, okX9_takesNumber⟩
theorem vX9_59 : vlk RX9 59 mdX9_endsItem 1 := ⟨gw_at (i := 419) (by decide +kernel) rfl, gw_at (i := 421) (by decide +kernel) rfl, gw_at (i := 7) (by decide +kernel) rfl, okX9_endsItem⟩
theorem vX9_63 : vlk RX9 63 mdX9_beginsItem 2 := ⟨gw_at (i := 435) (by decide +kernel) rfl, gw_at (i := 437) (by decide +kernel) rfl, gw_at (i := 9) (by decide +kernel) rfl, okX9_beginsItem⟩
theorem vX9_66 : vlk RX9 66 mdX7_emptyRow 1 := ⟨gw_at (i := 439) (by decide +kernel) rfl, gw_at (i := 440) (by decide +kernel) rfl, gw_at (i := 441) (by decide +kernel) rfl, okX7_emptyRow⟩
theorem vX9_77 : vlk RX9 77 mdX8_isFull 0 := ⟨gw_at (i := 443) (by decide +kernel) rfl, gw_at (i := 432) (by decide +kernel) rfl, gw_at (i := 433) (by decide +kernel) rfl, okX8_isFull⟩
theorem vX9_84 : vlk RX9 84 mdX9_takesSymbol 3 := ⟨gw_at (i := 382) (by decide +kernel) rfl, gw_at (i := 384) (by decide +kernel) rfl, gw_at (i := 4) (by decide +kernel) rfl, okX9_takesSymbol⟩
theorem vX9_87 : vlk RX9 87 mdX9_takesMark 2 := ⟨gw_at (i := 389) (by decide +kernel) rfl, gw_at (i := 391) (by decide +kernel) rfl, gw_at (i := 5) (by decide +kernel) rfl, okX9_takesMark⟩
theorem vX9_90 : vlk RX9 90 mdX9_takesPart 1 := ⟨gw_at (i := 404) (by decide +kernel) rfl, gw_at (i := 406) (by decide +kernel) rfl, gw_at (i := 6) (by decide +kernel) rfl, okX9_takesPart⟩
theorem vX9_93 : (∀ s, NW s → va_Nw (.methodLinkNest RX9 93 yX10_isSymbol "TwistedLight") s) ∧ Cond.static yX10_isSymbol ∈ GW ∧ okM mdX10_isSymbol 1 := ⟨fun s h => h.1, gw_at (i := 387) (by decide +kernel) rfl, okX10_isSymbol⟩
theorem vX9_99 : (∀ s, NW s → va_Nw (.methodLinkNest RX9 99 yX10_isPlace "TwistedLight") s) ∧ Cond.static yX10_isPlace ∈ GW ∧ okM mdX10_isPlace 1 := ⟨fun s h => h.2, gw_at (i := 394) (by decide +kernel) rfl, okX10_isPlace⟩
