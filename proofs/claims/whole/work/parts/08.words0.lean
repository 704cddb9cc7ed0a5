abbrev mu_X8_posesInAll : MD := (yX8_posesInAll, cX8_posesInAll, 1, (some .int))
abbrev mu_X0_init : MD := (yX0_init, cX0_init, 3, none)
abbrev mu_J7_fill_53178 : MD := (yJ7_fill_53178, cJ7_fill_53178, 4, none)
abbrev mu_X2_at : MD := (yX2_at, cX2_at, 2, (some .int))
abbrev mu_X8_isPose : MD := (yX8_isPose, cX8_isPose, 2, (some .boolean))
abbrev mu_X8_scriptOf : MD := (yX8_scriptOf, cX8_scriptOf, 2, (some (.object "OneEyeTwoLegs$Script")))
abbrev mu_X3_cellAhead : MD := (yX3_cellAhead, cX3_cellAhead, 4, (some .int))
abbrev mu_X4_name : MD := (yX4_name, cX4_name, 3, none)
abbrev mu_X3_lookAround : MD := (yX3_lookAround, cX3_lookAround, 5, none)
abbrev mu_X4_push : MD := (yX4_push, cX4_push, 2, none)
abbrev mu_X4_pop : MD := (yX4_pop, cX4_pop, 1, (some .int))
abbrev mu_X4_join : MD := (yX4_join, cX4_join, 5, (some .long))
abbrev mu_X4_held : MD := (yX4_held, cX4_held, 2, (some .int))
abbrev mu_X4_value : MD := (yX4_value, cX4_value, 7, (some .int))
abbrev mu_X3_plainDeed : MD := (yX3_plainDeed, cX3_plainDeed, 1, (some .int))
abbrev mu_X3_turned : MD := (yX3_turned, cX3_turned, 2, (some .int))
abbrev mu_X3_workOut : MD := (yX3_workOut, cX3_workOut, 8, (some .int))
abbrev mu_X3_step : MD := (yX3_step, cX3_step, 5, (some .int))
abbrev mu_X11_poseOf : MD := (yX11_poseOf, cX11_poseOf, 1, (some .int))
abbrev mu_X0_link : MD := (yX0_link, cX0_link, 6, none)
abbrev mu_X0_settle : MD := (yX0_settle, cX0_settle, 3, none)
abbrev mu_X0_begin : MD := (yX0_begin, cX0_begin, 4, none)
abbrev mu_X0_settleThiefs : MD := (yX0_settleThiefs, cX0_settleThiefs, 6, none)
abbrev mu_X0_settleCatchers : MD := (yX0_settleCatchers, cX0_settleCatchers, 6, none)
abbrev mu_X0_turns : MD := (yX0_turns, cX0_turns, 7, (some .int))
abbrev mu_X0_firstTap : MD := (yX0_firstTap, cX0_firstTap, 7, (some .int))
abbrev mu_X1_init : MD := (yX1_init, cX1_init, 3, none)
abbrev mu_X2_size : MD := (yX2_size, cX2_size, 1, (some .int))
abbrev mu_X1_unlessHome : MD := (yX1_unlessHome, cX1_unlessHome, 2, (some .int))
abbrev mu_X1_begin : MD := (yX1_begin, cX1_begin, 3, none)
abbrev mu_X1_isEmpty : MD := (yX1_isEmpty, cX1_isEmpty, 2, (some .boolean))
abbrev mu_X1_hasPairIn : MD := (yX1_hasPairIn, cX1_hasPairIn, 3, (some .boolean))
abbrev mu_X1_oneRound : MD := (yX1_oneRound, cX1_oneRound, 6, none)
abbrev mu_X1_rounds : MD := (yX1_rounds, cX1_rounds, 4, (some .int))
abbrev mu_X2_init : MD := (yX2_init, cX2_init, 2, none)
abbrev mu_X2_put : MD := (yX2_put, cX2_put, 3, none)
abbrev mu_X2_add : MD := (yX2_add, cX2_add, 2, none)
abbrev mu_X2_cutTo : MD := (yX2_cutTo, cX2_cutTo, 2, none)
abbrev mu_X2_dropFirst : MD := (yX2_dropFirst, cX2_dropFirst, 1, none)
abbrev mu_X2_copyFrom : MD := (yX2_copyFrom, cX2_copyFrom, 2, none)
abbrev mu_X3_init : MD := (yX3_init, cX3_init, 3, none)
abbrev mu_X3_forget : MD := (yX3_forget, cX3_forget, 1, none)
abbrev mu_X4_init : MD := (yX4_init, cX4_init, 1, none)
abbrev mu_X9_init : MD := (yX9_init, cX9_init, 1, none)
abbrev mu_X5_init : MD := (yX5_init, cX5_init, 1, none)
abbrev mu_X5_found : MD := (yX5_found, cX5_found, 1, (some .int))
abbrev mu_X5_foundAt : MD := (yX5_foundAt, cX5_foundAt, 1, (some .int))
abbrev mu_X9_isLetter : MD := (yX9_isLetter, cX9_isLetter, 1, (some .boolean))
abbrev mu_X9_spelling : MD := (yX9_spelling, cX9_spelling, 1, (some (.object "java/lang/String")))
abbrev mu_J0_coder_7d493 : MD := (yJ0_coder_7d493, cJ0_coder_7d493, 1, (some .byte))
abbrev mu_J0_length_8abf5 : MD := (yJ0_length_8abf5, cJ0_length_8abf5, 1, (some .int))
abbrev mu_J0_isLatin1_aae02 : MD := (yJ0_isLatin1_aae02, cJ0_isLatin1_aae02, 1, (some .boolean))
abbrev mu_J3_checkIndex_8e157 : MD := (yJ3_checkIndex_8e157, cJ3_checkIndex_8e157, 3, (some .int))
abbrev mu_J0_checkIndex_df160 : MD := (yJ0_checkIndex_df160, cJ0_checkIndex_df160, 2, none)
abbrev mu_J1_charAt_3b067 : MD := (yJ1_charAt_3b067, cJ1_charAt_3b067, 2, (some .char))
abbrev mu_J2_length_9d52b : MD := (yJ2_length_9d52b, cJ2_length_9d52b, 1, (some .int))
abbrev mu_J2_checkIndex_2214a : MD := (yJ2_checkIndex_2214a, cJ2_checkIndex_2214a, 2, none)
abbrev mu_J2_getChar_3b067 : MD := (yJ2_getChar_3b067, cJ2_getChar_3b067, 2, (some .char))
abbrev mu_J2_charAt_3b067 : MD := (yJ2_charAt_3b067, cJ2_charAt_3b067, 2, (some .char))
abbrev mu_J0_charAt_5068e : MD := (yJ0_charAt_5068e, cJ0_charAt_5068e, 2, (some .char))
abbrev mu_X9_isSpelled : MD := (yX9_isSpelled, cX9_isSpelled, 5, (some .boolean))
abbrev mu_X9_note : MD := (yX9_note, cX9_note, 4, none)
abbrev mu_X9_scanWord : MD := (yX9_scanWord, cX9_scanWord, 6, (some .int))
abbrev mu_X9_isDigit : MD := (yX9_isDigit, cX9_isDigit, 1, (some .boolean))
abbrev mu_X9_scanNumber : MD := (yX9_scanNumber, cX9_scanNumber, 6, (some .int))
abbrev mu_X9_kindOfSign : MD := (yX9_kindOfSign, cX9_kindOfSign, 1, (some .int))
abbrev mu_X9_scanOne : MD := (yX9_scanOne, cX9_scanOne, 6, (some .int))
abbrev mu_X9_scan : MD := (yX9_scan, cX9_scan, 4, none)
abbrev mu_X9_kindAt : MD := (yX9_kindAt, cX9_kindAt, 2, (some .int))
abbrev mu_X9_placeAt : MD := (yX9_placeAt, cX9_placeAt, 2, (some .int))
abbrev mu_X5_fail : MD := (yX5_fail, cX5_fail, 2, none)
abbrev mu_X5_next : MD := (yX5_next, cX5_next, 1, none)
abbrev mu_X5_opens : MD := (yX5_opens, cX5_opens, 1, (some .boolean))
abbrev mu_X5_order : MD := (yX5_order, cX5_order, 2, none)
abbrev mu_X5_take : MD := (yX5_take, cX5_take, 2, none)
abbrev mu_X5_orderWith : MD := (yX5_orderWith, cX5_orderWith, 3, (some .int))
abbrev mu_X5_landHere : MD := (yX5_landHere, cX5_landHere, 2, none)
abbrev mu_X9_valueAt : MD := (yX9_valueAt, cX9_valueAt, 2, (some .int))
abbrev mu_X5_readNumber : MD := (yX5_readNumber, cX5_readNumber, 2, none)
abbrev mu_X5_readName : MD := (yX5_readName, cX5_readName, 2, none)
abbrev mu_X5_readBoth : MD := (yX5_readBoth, cX5_readBoth, 2, none)
abbrev mu_X5_readEither : MD := (yX5_readEither, cX5_readEither, 2, none)
abbrev mu_X5_readIf : MD := (yX5_readIf, cX5_readIf, 3, none)
abbrev mu_X5_readOne : MD := (yX5_readOne, cX5_readOne, 1, none)
abbrev mu_X5_readOpened : MD := (yX5_readOpened, cX5_readOpened, 2, none)
abbrev mu_X5_readProduct : MD := (yX5_readProduct, cX5_readProduct, 3, none)
abbrev mu_X5_readSum : MD := (yX5_readSum, cX5_readSum, 3, none)
abbrev mu_X5_readAsk : MD := (yX5_readAsk, cX5_readAsk, 2, none)
abbrev mu_X5_readClause : MD := (yX5_readClause, cX5_readClause, 1, none)
abbrev mu_J7_copyOf_59c91 : MD := (yJ7_copyOf_59c91, cJ7_copyOf_59c91, 3, (some (.array .int)))
abbrev mu_X6_init : MD := (yX6_init, cX6_init, 5, none)
abbrev mu_X5_read : MD := (yX5_read, cX5_read, 3, (some (.object "OneEyeTwoLegs$Script")))
abbrev mu_X7_init : MD := (yX7_init, cX7_init, 2, none)
abbrev mu_X7_goTo : MD := (yX7_goTo, cX7_goTo, 2, none)
abbrev mu_X7_goApart : MD := (yX7_goApart, cX7_goApart, 1, none)
abbrev mu_X7_add : MD := (yX7_add, cX7_add, 2, none)
abbrev mu_X7_slotOf : MD := (yX7_slotOf, cX7_slotOf, 4, (some .int))
abbrev mu_X7_keep : MD := (yX7_keep, cX7_keep, 5, none)
abbrev mu_X7_isThere : MD := (yX7_isThere, cX7_isThere, 7, (some .boolean))
abbrev mu_X7_rowBehind : MD := (yX7_rowBehind, cX7_rowBehind, 7, (some .int))
abbrev mu_X7_tapsToLatest : MD := (yX7_tapsToLatest, cX7_tapsToLatest, 4, (some .int))
abbrev mu_X7_seek : MD := (yX7_seek, cX7_seek, 7, (some .int))
abbrev mu_X7_tapAt : MD := (yX7_tapAt, cX7_tapAt, 5, (some .int))
abbrev mu_X8_init : MD := (yX8_init, cX8_init, 4, none)
abbrev mu_X8_copyFrom : MD := (yX8_copyFrom, cX8_copyFrom, 3, none)
abbrev mu_X8_isCell : MD := (yX8_isCell, cX8_isCell, 2, (some .boolean))
abbrev mu_X8_isText : MD := (yX8_isText, cX8_isText, 2, (some .boolean))
abbrev mu_X8_isPair : MD := (yX8_isPair, cX8_isPair, 2, (some .boolean))
abbrev mu_X8_hasPairIn : MD := (yX8_hasPairIn, cX8_hasPairIn, 3, (some .boolean))
abbrev mu_X8_addText : MD := (yX8_addText, cX8_addText, 2, (some .int))
abbrev mu_X8_keepStep : MD := (yX8_keepStep, cX8_keepStep, 2, none)
abbrev mu_X8_forgetSteps : MD := (yX8_forgetSteps, cX8_forgetSteps, 1, none)
abbrev mu_X10_init : MD := (yX10_init, cX10_init, 3, none)
abbrev mu_X10_begin : MD := (yX10_begin, cX10_begin, 2, none)
abbrev mu_X10_liking : MD := (yX10_liking, cX10_liking, 5, (some .int))
abbrev mu_X10_learn : MD := (yX10_learn, cX10_learn, 7, none)
abbrev mu_X10_likedMost : MD := (yX10_likedMost, cX10_likedMost, 5, (some .int))
abbrev mu_X10_answer : MD := (yX10_answer, cX10_answer, 5, none)
abbrev mu_X10_oneAsks : MD := (yX10_oneAsks, cX10_oneAsks, 3, none)
abbrev mu_X10_carrierOf : MD := (yX10_carrierOf, cX10_carrierOf, 5, (some .int))
abbrev mu_X11_init : MD := (yX11_init, cX11_init, 3, none)
abbrev mu_X11_cell : MD := (yX11_cell, cX11_cell, 3, (some .boolean))
abbrev mu_X11_pair : MD := (yX11_pair, cX11_pair, 3, (some .int))
abbrev mu_X11_addBytes : MD := (yX11_addBytes, cX11_addBytes, 3, none)
abbrev mu_X11_feed : MD := (yX11_feed, cX11_feed, 6, (some .int))
abbrev mu_X11_end : MD := (yX11_end, cX11_end, 2, (some .int))
abbrev mu_X11_text : MD := (yX11_text, cX11_text, 2, (some .int))
abbrev mu_X11_fault : MD := (yX11_fault, cX11_fault, 2, (some .int))
abbrev mu_X11_isTap : MD := (yX11_isTap, cX11_isTap, 1, (some .boolean))
abbrev mu_X11_goes : MD := (yX11_goes, cX11_goes, 4, (some .int))
abbrev mu_X11_tap : MD := (yX11_tap, cX11_tap, 4, (some .int))
abbrev mu_X11_row : MD := (yX11_row, cX11_row, 2, (some .int))
abbrev mu_X11_hasBumped : MD := (yX11_hasBumped, cX11_hasBumped, 1, (some .boolean))
abbrev mu_X11_walk : MD := (yX11_walk, cX11_walk, 6, (some .int))
abbrev mu_X11_undo : MD := (yX11_undo, cX11_undo, 3, (some .int))
abbrev mu_X11_of : MD := (yX11_of, cX11_of, 3, (some .int))
abbrev mu_J6_bitCount_0f7a4 : MD := (yJ6_bitCount_0f7a4, cJ6_bitCount_0f7a4, 1, (some .int))
abbrev mu_X11_searcher : MD := (yX11_searcher, cX11_searcher, 1, (some (.object "OneEyeTwoLegs$Search")))
abbrev mu_X11_tapOrCount : MD := (yX11_tapOrCount, cX11_tapOrCount, 3, (some .int))
abbrev mu_X11_fewest : MD := (yX11_fewest, cX11_fewest, 7, (some .int))
abbrev mu_X11_tells : MD := (yX11_tells, cX11_tells, 6, (some .int))
abbrev mu_J7_fill_d0a16 : MD := (yJ7_fill_d0a16, cJ7_fill_d0a16, 5, none)
abbrev mu_X11_spreadBy : MD := (yX11_spreadBy, cX11_spreadBy, 5, none)
abbrev mu_X11_commonDivisor : MD := (yX11_commonDivisor, cX11_commonDivisor, 11, (some .long))
abbrev mu_X11_odds : MD := (yX11_odds, cX11_odds, 12, (some .long))
abbrev mu_X11_seen : MD := (yX11_seen, cX11_seen, 4, (some .int))
abbrev mu_X11_isAllSeenBy : MD := (yX11_isAllSeenBy, cX11_isAllSeenBy, 5, (some .boolean))
abbrev mu_X11_holds : MD := (yX11_holds, cX11_holds, 3, (some .int))
abbrev mu_X11_bumpsFrom : MD := (yX11_bumpsFrom, cX11_bumpsFrom, 7, (some .int))
abbrev mu_X11_dark : MD := (yX11_dark, cX11_dark, 6, (some .int))
abbrev mu_X11_addToSide : MD := (yX11_addToSide, cX11_addToSide, 2, (some .int))
abbrev mu_X11_rider : MD := (yX11_rider, cX11_rider, 2, (some .int))
abbrev mu_X11_carrier : MD := (yX11_carrier, cX11_carrier, 2, (some .int))
abbrev mu_X11_wed : MD := (yX11_wed, cX11_wed, 5, (some .int))
abbrev mu_X11_crowd : MD := (yX11_crowd, cX11_crowd, 2, (some .int))
abbrev mu_X11_isChase : MD := (yX11_isChase, cX11_isChase, 5, (some .boolean))
abbrev mu_X11_pursuer : MD := (yX11_pursuer, cX11_pursuer, 1, (some (.object "OneEyeTwoLegs$Chase")))
abbrev mu_X11_chase : MD := (yX11_chase, cX11_chase, 5, (some .int))
abbrev mu_X11_hunt : MD := (yX11_hunt, cX11_hunt, 6, (some .int))
abbrev mu_X11_image : MD := (yX11_image, cX11_image, 1, (some .int))
abbrev mu_X11_back : MD := (yX11_back, cX11_back, 1, (some .int))
abbrev mu_X11_about : MD := (yX11_about, cX11_about, 2, (some .int))
abbrev mu_X12_copy : MD := (yX12_copy, cX12_copy, 3, none)
abbrev mu_X12_init : MD := (yX12_init, cX12_init, 3, none)
abbrev mu_X12_isIn : MD := (yX12_isIn, cX12_isIn, 3, (some .boolean))
abbrev mu_X12_isCell : MD := (yX12_isCell, cX12_isCell, 2, (some .boolean))
abbrev mu_X12_isWall : MD := (yX12_isWall, cX12_isWall, 2, (some .boolean))
abbrev mu_X12_isPose : MD := (yX12_isPose, cX12_isPose, 2, (some .boolean))
abbrev mu_X12_isText : MD := (yX12_isText, cX12_isText, 2, (some .boolean))
abbrev mu_X12_isPair : MD := (yX12_isPair, cX12_isPair, 2, (some .boolean))
abbrev mu_X12_poseOf : MD := (yX12_poseOf, cX12_poseOf, 2, (some .int))
abbrev mu_X12_habitOf : MD := (yX12_habitOf, cX12_habitOf, 2, (some .int))
abbrev mu_X12_ahead : MD := (yX12_ahead, cX12_ahead, 5, (some .int))
abbrev mu_X12_cell : MD := (yX12_cell, cX12_cell, 4, (some .boolean))
abbrev mu_X12_pair : MD := (yX12_pair, cX12_pair, 3, (some .int))
abbrev mu_X12_rider : MD := (yX12_rider, cX12_rider, 2, (some .int))
abbrev mu_X12_carrier : MD := (yX12_carrier, cX12_carrier, 2, (some .int))
abbrev mu_X12_four : MD := (yX12_four, cX12_four, 3, none)
abbrev mu_X12_feed : MD := (yX12_feed, cX12_feed, 6, (some .int))
abbrev mu_X12_end : MD := (yX12_end, cX12_end, 2, (some .int))
abbrev mu_X12_byteAt : MD := (yX12_byteAt, cX12_byteAt, 2, (some .int))
abbrev mu_X12_isLetter : MD := (yX12_isLetter, cX12_isLetter, 1, (some .boolean))
abbrev mu_X12_isDigit : MD := (yX12_isDigit, cX12_isDigit, 1, (some .boolean))
abbrev mu_X12_nextToken : MD := (yX12_nextToken, cX12_nextToken, 3, none)
abbrev mu_X12_w3 : MD := (yX12_w3, cX12_w3, 3, (some .long))
abbrev mu_X12_w5 : MD := (yX12_w5, cX12_w5, 5, (some .long))
abbrev mu_X12_w4 : MD := (yX12_w4, cX12_w4, 4, (some .long))
abbrev mu_X12_isWord : MD := (yX12_isWord, cX12_isWord, 3, (some .boolean))
abbrev mu_X12_emit : MD := (yX12_emit, cX12_emit, 3, none)
abbrev mu_X12_push : MD := (yX12_push, cX12_push, 2, none)
abbrev mu_X12_rank : MD := (yX12_rank, cX12_rank, 1, (some .int))
abbrev mu_X12_settle : MD := (yX12_settle, cX12_settle, 2, none)
abbrev mu_X12_whole : MD := (yX12_whole, cX12_whole, 1, none)
abbrev mu_X12_marker : MD := (yX12_marker, cX12_marker, 2, (some .int))
abbrev mu_X12_kindOpen : MD := (yX12_kindOpen, cX12_kindOpen, 3, (some .int))
abbrev mu_X12_isCompared : MD := (yX12_isCompared, cX12_isCompared, 2, (some .boolean))
abbrev mu_X12_isAskAhead : MD := (yX12_isAskAhead, cX12_isAskAhead, 2, (some .boolean))
abbrev mu_X12_opensBy : MD := (yX12_opensBy, cX12_opensBy, 2, (some .int))
abbrev mu_X12_nameOf : MD := (yX12_nameOf, cX12_nameOf, 1, (some .int))
abbrev mu_X12_isOf : MD := (yX12_isOf, cX12_isOf, 2, (some .boolean))
abbrev mu_X12_beginOne : MD := (yX12_beginOne, cX12_beginOne, 3, (some .int))
abbrev mu_X12_compareOf : MD := (yX12_compareOf, cX12_compareOf, 1, (some .int))
abbrev mu_X12_betweenOf : MD := (yX12_betweenOf, cX12_betweenOf, 2, (some .int))
abbrev mu_X12_behindOne : MD := (yX12_behindOne, cX12_behindOne, 5, (some .boolean))
abbrev mu_X12_parsed : MD := (yX12_parsed, cX12_parsed, 4, (some .int))
abbrev mu_X12_sortOf : MD := (yX12_sortOf, cX12_sortOf, 1, (some .int))
abbrev mu_X12_clause : MD := (yX12_clause, cX12_clause, 4, (some .int))
abbrev mu_X12_readText : MD := (yX12_readText, cX12_readText, 2, (some .int))
abbrev mu_X12_text : MD := (yX12_text, cX12_text, 1, (some .int))
abbrev mu_X12_fault : MD := (yX12_fault, cX12_fault, 2, (some .int))
abbrev mu_X12_clip : MD := (yX12_clip, cX12_clip, 2, (some .long))
abbrev mu_X12_two : MD := (yX12_two, cX12_two, 5, (some .long))
abbrev mu_X12_isAsked : MD := (yX12_isAsked, cX12_isAsked, 5, (some .boolean))
abbrev mu_X12_work : MD := (yX12_work, cX12_work, 10, none)
abbrev mu_X12_clauseOf : MD := (yX12_clauseOf, cX12_clauseOf, 4, (some .int))
abbrev mu_X12_doesAt : MD := (yX12_doesAt, cX12_doesAt, 4, (some .int))
abbrev mu_X12_made : MD := (yX12_made, cX12_made, 8, (some .int))
abbrev mu_X12_lay : MD := (yX12_lay, cX12_lay, 4, none)
abbrev mu_X12_laid : MD := (yX12_laid, cX12_laid, 4, (some .int))
abbrev mu_X12_then : MD := (yX12_then, cX12_then, 4, (some .int))
abbrev mu_X12_goes : MD := (yX12_goes, cX12_goes, 4, (some .int))
abbrev mu_X12_keep : MD := (yX12_keep, cX12_keep, 3, none)
abbrev mu_X12_tap : MD := (yX12_tap, cX12_tap, 4, (some .int))
abbrev mu_X12_row : MD := (yX12_row, cX12_row, 2, (some .int))
abbrev mu_X12_walk : MD := (yX12_walk, cX12_walk, 5, (some .int))
abbrev mu_X12_undo : MD := (yX12_undo, cX12_undo, 2, (some .int))
abbrev mu_X12_of : MD := (yX12_of, cX12_of, 3, (some .int))
abbrev mu_X12_sumOf : MD := (yX12_sumOf, cX12_sumOf, 3, (some .int))
abbrev mu_X12_isKept : MD := (yX12_isKept, cX12_isKept, 8, (some .boolean))
abbrev mu_X12_next : MD := (yX12_next, cX12_next, 4, (some .int))
abbrev mu_X12_isSought : MD := (yX12_isSought, cX12_isSought, 4, (some .boolean))
abbrev mu_X12_search : MD := (yX12_search, cX12_search, 7, (some .int))
abbrev mu_X12_tapsTo : MD := (yX12_tapsTo, cX12_tapsTo, 6, (some .int))
abbrev mu_X12_fewest : MD := (yX12_fewest, cX12_fewest, 7, (some .int))
abbrev mu_X12_tells : MD := (yX12_tells, cX12_tells, 5, (some .int))
abbrev mu_X12_common : MD := (yX12_common, cX12_common, 10, (some .long))
abbrev mu_X12_odds : MD := (yX12_odds, cX12_odds, 11, (some .long))
abbrev mu_X12_seen : MD := (yX12_seen, cX12_seen, 5, (some .int))
abbrev mu_X12_holds : MD := (yX12_holds, cX12_holds, 6, (some .int))
abbrev mu_X12_bumpsFrom : MD := (yX12_bumpsFrom, cX12_bumpsFrom, 7, (some .int))
abbrev mu_X12_dark : MD := (yX12_dark, cX12_dark, 6, (some .int))
abbrev mu_X12_findLikings : MD := (yX12_findLikings, cX12_findLikings, 6, none)
abbrev mu_X12_likes : MD := (yX12_likes, cX12_likes, 4, (some .long))
abbrev mu_X12_bestOf : MD := (yX12_bestOf, cX12_bestOf, 5, (some .int))
abbrev mu_X12_isMore : MD := (yX12_isMore, cX12_isMore, 9, (some .boolean))
abbrev mu_X12_wed : MD := (yX12_wed, cX12_wed, 7, (some .int))
abbrev mu_X12_isTaken : MD := (yX12_isTaken, cX12_isTaken, 4, (some .boolean))
abbrev mu_X12_areHome : MD := (yX12_areHome, cX12_areHome, 4, (some .boolean))
abbrev mu_X12_crowd : MD := (yX12_crowd, cX12_crowd, 5, (some .int))
abbrev mu_X12_stateAt : MD := (yX12_stateAt, cX12_stateAt, 3, (some .int))
abbrev mu_X12_turnsBehind : MD := (yX12_turnsBehind, cX12_turnsBehind, 6, (some .int))
abbrev mu_X12_isSettled : MD := (yX12_isSettled, cX12_isSettled, 11, (some .boolean))
abbrev mu_X12_settle_ : MD := (yX12_settle_, cX12_settle_, 10, none)
abbrev mu_X12_isChase : MD := (yX12_isChase, cX12_isChase, 5, (some .boolean))
abbrev mu_X12_chase : MD := (yX12_chase, cX12_chase, 5, (some .int))
abbrev mu_X12_hunt : MD := (yX12_hunt, cX12_hunt, 8, (some .int))
abbrev mu_X12_image : MD := (yX12_image, cX12_image, 1, (some .int))
abbrev mu_X12_back : MD := (yX12_back, cX12_back, 1, (some .int))
abbrev mu_X12_about : MD := (yX12_about, cX12_about, 2, (some .int))
abbrev mu_J9_max_7cf53 : MD := (yJ9_max_7cf53, cJ9_max_7cf53, 2, (some .int))
abbrev mu_J9_max_f86c9 : MD := (yJ9_max_f86c9, cJ9_max_f86c9, 4, (some .long))
abbrev mu_J9_min_7cf53 : MD := (yJ9_min_7cf53, cJ9_min_7cf53, 2, (some .int))
abbrev mu_J9_min_f86c9 : MD := (yJ9_min_f86c9, cJ9_min_f86c9, 4, (some .long))
abbrev mu_L_cell : MD := (yL_cell, cL_cell, 2, (some .int))
theorem mo_X8_posesInAll : MO mu_X8_posesInAll 0 := ⟨in_TB (List.mem_of_getElem? (i := 323) (by decide +kernel)) (by decide +kernel), in_TB (List.mem_of_getElem? (i := 116) (by decide +kernel)) (by decide +kernel), by decide, by decide, by decide, by decide +kernel⟩
theorem mi_X8_posesInAll : Cond.instanceMethod yX8_posesInAll ∈ TB ∧ Cond.selects yX8_posesInAll.cls yX8_posesInAll yX8_posesInAll ∈ TB := ⟨in_TB (List.mem_of_getElem? (i := 321) (by decide +kernel)) (by decide +kernel), in_TB (List.mem_of_getElem? (i := 322) (by decide +kernel)) (by decide +kernel)⟩
theorem mo_X0_init : MO mu_X0_init 2 := ⟨in_TB (List.mem_of_getElem? (i := 1099) (by decide +kernel)) (by decide +kernel), in_TB (List.mem_of_getElem? (i := 130) (by decide +kernel)) (by decide +kernel), by decide, by decide, by decide, by decide +kernel⟩
theorem mn_X0_init : Cond.instanceMethod yX0_init ∈ TB := in_TB (List.mem_of_getElem? (i := 1098) (by decide +kernel)) (by decide +kernel)
theorem mo_J7_fill_53178 : MO mu_J7_fill_53178 2 := ⟨in_TB (List.mem_of_getElem? (i := 326) (by decide +kernel)) (by decide +kernel), in_TB (List.mem_of_getElem? (i := 118) (by decide +kernel)) (by decide +kernel), by decide, by decide, by decide, by decide +kernel⟩
theorem ms_J7_fill_53178 : Cond.static yJ7_fill_53178 ∈ TB := in_TB (List.mem_of_getElem? (i := 325) (by decide +kernel)) (by decide +kernel)
theorem mo_X2_at : MO mu_X2_at 1 := ⟨in_TB (List.mem_of_getElem? (i := 453) (by decide +kernel)) (by decide +kernel), in_TB (List.mem_of_getElem? (i := 111) (by decide +kernel)) (by decide +kernel), by decide, by decide, by decide, by decide +kernel⟩
theorem mi_X2_at : Cond.instanceMethod yX2_at ∈ TB ∧ Cond.selects yX2_at.cls yX2_at yX2_at ∈ TB := ⟨in_TB (List.mem_of_getElem? (i := 451) (by decide +kernel)) (by decide +kernel), in_TB (List.mem_of_getElem? (i := 452) (by decide +kernel)) (by decide +kernel)⟩
theorem mo_X8_isPose : MO mu_X8_isPose 1 := ⟨in_TB (List.mem_of_getElem? (i := 478) (by decide +kernel)) (by decide +kernel), in_TB (List.mem_of_getElem? (i := 116) (by decide +kernel)) (by decide +kernel), by decide, by decide, by decide, by decide +kernel⟩
theorem mi_X8_isPose : Cond.instanceMethod yX8_isPose ∈ TB ∧ Cond.selects yX8_isPose.cls yX8_isPose yX8_isPose ∈ TB := ⟨in_TB (List.mem_of_getElem? (i := 476) (by decide +kernel)) (by decide +kernel), in_TB (List.mem_of_getElem? (i := 477) (by decide +kernel)) (by decide +kernel)⟩
theorem mo_X8_scriptOf : MO mu_X8_scriptOf 1 := ⟨in_TB (List.mem_of_getElem? (i := 773) (by decide +kernel)) (by decide +kernel), in_TB (List.mem_of_getElem? (i := 116) (by decide +kernel)) (by decide +kernel), by decide, by decide, by decide, by decide +kernel⟩
theorem mi_X8_scriptOf : Cond.instanceMethod yX8_scriptOf ∈ TB ∧ Cond.selects yX8_scriptOf.cls yX8_scriptOf yX8_scriptOf ∈ TB := ⟨in_TB (List.mem_of_getElem? (i := 771) (by decide +kernel)) (by decide +kernel), in_TB (List.mem_of_getElem? (i := 772) (by decide +kernel)) (by decide +kernel)⟩
theorem mo_X3_cellAhead : MO mu_X3_cellAhead 1 := ⟨in_TB (List.mem_of_getElem? (i := 777) (by decide +kernel)) (by decide +kernel), in_TB (List.mem_of_getElem? (i := 117) (by decide +kernel)) (by decide +kernel), by decide, by decide, by decide, by decide +kernel⟩
theorem mi_X3_cellAhead : Cond.instanceMethod yX3_cellAhead ∈ TB ∧ Cond.selects yX3_cellAhead.cls yX3_cellAhead yX3_cellAhead ∈ TB := ⟨in_TB (List.mem_of_getElem? (i := 776) (by decide +kernel)) (by decide +kernel), in_TB (List.mem_of_getElem? (i := 24) (by decide +kernel)) (by decide +kernel)⟩
theorem mo_X4_name : MO mu_X4_name 2 := ⟨in_TB (List.mem_of_getElem? (i := 786) (by decide +kernel)) (by decide +kernel), in_TB (List.mem_of_getElem? (i := 115) (by decide +kernel)) (by decide +kernel), by decide, by decide, by decide, by decide +kernel⟩
theorem mi_X4_name : Cond.instanceMethod yX4_name ∈ TB ∧ Cond.selects yX4_name.cls yX4_name yX4_name ∈ TB := ⟨in_TB (List.mem_of_getElem? (i := 784) (by decide +kernel)) (by decide +kernel), in_TB (List.mem_of_getElem? (i := 785) (by decide +kernel)) (by decide +kernel)⟩
theorem mo_X3_lookAround : MO mu_X3_lookAround 3 := ⟨in_TB (List.mem_of_getElem? (i := 782) (by decide +kernel)) (by decide +kernel), in_TB (List.mem_of_getElem? (i := 117) (by decide +kernel)) (by decide +kernel), by decide, by decide, by decide, by decide +kernel⟩
theorem mi_X3_lookAround : Cond.instanceMethod yX3_lookAround ∈ TB ∧ Cond.selects yX3_lookAround.cls yX3_lookAround yX3_lookAround ∈ TB := ⟨in_TB (List.mem_of_getElem? (i := 781) (by decide +kernel)) (by decide +kernel), in_TB (List.mem_of_getElem? (i := 25) (by decide +kernel)) (by decide +kernel)⟩
theorem mo_X4_push : MO mu_X4_push 1 := ⟨in_TB (List.mem_of_getElem? (i := 794) (by decide +kernel)) (by decide +kernel), in_TB (List.mem_of_getElem? (i := 115) (by decide +kernel)) (by decide +kernel), by decide, by decide, by decide, by decide +kernel⟩
theorem mi_X4_push : Cond.instanceMethod yX4_push ∈ TB ∧ Cond.selects yX4_push.cls yX4_push yX4_push ∈ TB := ⟨in_TB (List.mem_of_getElem? (i := 793) (by decide +kernel)) (by decide +kernel), in_TB (List.mem_of_getElem? (i := 26) (by decide +kernel)) (by decide +kernel)⟩
theorem mo_X4_pop : MO mu_X4_pop 0 := ⟨in_TB (List.mem_of_getElem? (i := 798) (by decide +kernel)) (by decide +kernel), in_TB (List.mem_of_getElem? (i := 115) (by decide +kernel)) (by decide +kernel), by decide, by decide, by decide, by decide +kernel⟩
theorem mi_X4_pop : Cond.instanceMethod yX4_pop ∈ TB ∧ Cond.selects yX4_pop.cls yX4_pop yX4_pop ∈ TB := ⟨in_TB (List.mem_of_getElem? (i := 797) (by decide +kernel)) (by decide +kernel), in_TB (List.mem_of_getElem? (i := 27) (by decide +kernel)) (by decide +kernel)⟩
theorem mo_X4_join : MO mu_X4_join 3 := ⟨in_TB (List.mem_of_getElem? (i := 801) (by decide +kernel)) (by decide +kernel), in_TB (List.mem_of_getElem? (i := 115) (by decide +kernel)) (by decide +kernel), by decide, by decide, by decide, by decide +kernel⟩
theorem ms_X4_join : Cond.static yX4_join ∈ TB := in_TB (List.mem_of_getElem? (i := 800) (by decide +kernel)) (by decide +kernel)
theorem mo_X4_held : MO mu_X4_held 1 := ⟨in_TB (List.mem_of_getElem? (i := 804) (by decide +kernel)) (by decide +kernel), in_TB (List.mem_of_getElem? (i := 115) (by decide +kernel)) (by decide +kernel), by decide, by decide, by decide, by decide +kernel⟩
theorem ms_X4_held : Cond.static yX4_held ∈ TB := in_TB (List.mem_of_getElem? (i := 803) (by decide +kernel)) (by decide +kernel)
theorem mo_X4_value : MO mu_X4_value 2 := ⟨in_TB (List.mem_of_getElem? (i := 790) (by decide +kernel)) (by decide +kernel), in_TB (List.mem_of_getElem? (i := 115) (by decide +kernel)) (by decide +kernel), by decide, by decide, by decide, by decide +kernel⟩
theorem mi_X4_value : Cond.instanceMethod yX4_value ∈ TB ∧ Cond.selects yX4_value.cls yX4_value yX4_value ∈ TB := ⟨in_TB (List.mem_of_getElem? (i := 788) (by decide +kernel)) (by decide +kernel), in_TB (List.mem_of_getElem? (i := 789) (by decide +kernel)) (by decide +kernel)⟩
theorem mo_X3_plainDeed : MO mu_X3_plainDeed 1 := ⟨in_TB (List.mem_of_getElem? (i := 815) (by decide +kernel)) (by decide +kernel), in_TB (List.mem_of_getElem? (i := 117) (by decide +kernel)) (by decide +kernel), by decide, by decide, by decide, by decide +kernel⟩
theorem ms_X3_plainDeed : Cond.static yX3_plainDeed ∈ TB := in_TB (List.mem_of_getElem? (i := 814) (by decide +kernel)) (by decide +kernel)
theorem mo_X3_turned : MO mu_X3_turned 2 := ⟨in_TB (List.mem_of_getElem? (i := 820) (by decide +kernel)) (by decide +kernel), in_TB (List.mem_of_getElem? (i := 117) (by decide +kernel)) (by decide +kernel), by decide, by decide, by decide, by decide +kernel⟩
theorem ms_X3_turned : Cond.static yX3_turned ∈ TB := in_TB (List.mem_of_getElem? (i := 819) (by decide +kernel)) (by decide +kernel)
theorem mo_X3_workOut : MO mu_X3_workOut 3 := ⟨in_TB (List.mem_of_getElem? (i := 769) (by decide +kernel)) (by decide +kernel), in_TB (List.mem_of_getElem? (i := 117) (by decide +kernel)) (by decide +kernel), by decide, by decide, by decide, by decide +kernel⟩
theorem mi_X3_workOut : Cond.instanceMethod yX3_workOut ∈ TB ∧ Cond.selects yX3_workOut.cls yX3_workOut yX3_workOut ∈ TB := ⟨in_TB (List.mem_of_getElem? (i := 768) (by decide +kernel)) (by decide +kernel), in_TB (List.mem_of_getElem? (i := 23) (by decide +kernel)) (by decide +kernel)⟩
theorem mo_X3_step : MO mu_X3_step 3 := ⟨in_TB (List.mem_of_getElem? (i := 765) (by decide +kernel)) (by decide +kernel), in_TB (List.mem_of_getElem? (i := 117) (by decide +kernel)) (by decide +kernel), by decide, by decide, by decide, by decide +kernel⟩
theorem mi_X3_step : Cond.instanceMethod yX3_step ∈ TB ∧ Cond.selects yX3_step.cls yX3_step yX3_step ∈ TB := ⟨in_TB (List.mem_of_getElem? (i := 763) (by decide +kernel)) (by decide +kernel), in_TB (List.mem_of_getElem? (i := 764) (by decide +kernel)) (by decide +kernel)⟩
theorem mo_X11_poseOf : MO mu_X11_poseOf 1 := ⟨in_TB (List.mem_of_getElem? (i := 841) (by decide +kernel)) (by decide +kernel), in_TB (List.mem_of_getElem? (i := 110) (by decide +kernel)) (by decide +kernel), by decide, by decide, by decide, by decide +kernel⟩
theorem ms_X11_poseOf : Cond.static yX11_poseOf ∈ TB := in_TB (List.mem_of_getElem? (i := 840) (by decide +kernel)) (by decide +kernel)
theorem mo_X0_link : MO mu_X0_link 3 := ⟨in_TB (List.mem_of_getElem? (i := 1143) (by decide +kernel)) (by decide +kernel), in_TB (List.mem_of_getElem? (i := 130) (by decide +kernel)) (by decide +kernel), by decide, by decide, by decide, by decide +kernel⟩
theorem mi_X0_link : Cond.instanceMethod yX0_link ∈ TB ∧ Cond.selects yX0_link.cls yX0_link yX0_link ∈ TB := ⟨in_TB (List.mem_of_getElem? (i := 1142) (by decide +kernel)) (by decide +kernel), in_TB (List.mem_of_getElem? (i := 49) (by decide +kernel)) (by decide +kernel)⟩
theorem mo_X0_settle : MO mu_X0_settle 2 := ⟨in_TB (List.mem_of_getElem? (i := 1155) (by decide +kernel)) (by decide +kernel), in_TB (List.mem_of_getElem? (i := 130) (by decide +kernel)) (by decide +kernel), by decide, by decide, by decide, by decide +kernel⟩
theorem mi_X0_settle : Cond.instanceMethod yX0_settle ∈ TB ∧ Cond.selects yX0_settle.cls yX0_settle yX0_settle ∈ TB := ⟨in_TB (List.mem_of_getElem? (i := 1154) (by decide +kernel)) (by decide +kernel), in_TB (List.mem_of_getElem? (i := 51) (by decide +kernel)) (by decide +kernel)⟩
theorem mo_X0_begin : MO mu_X0_begin 0 := ⟨in_TB (List.mem_of_getElem? (i := 1151) (by decide +kernel)) (by decide +kernel), in_TB (List.mem_of_getElem? (i := 130) (by decide +kernel)) (by decide +kernel), by decide, by decide, by decide, by decide +kernel⟩
theorem mi_X0_begin : Cond.instanceMethod yX0_begin ∈ TB ∧ Cond.selects yX0_begin.cls yX0_begin yX0_begin ∈ TB := ⟨in_TB (List.mem_of_getElem? (i := 1150) (by decide +kernel)) (by decide +kernel), in_TB (List.mem_of_getElem? (i := 50) (by decide +kernel)) (by decide +kernel)⟩
theorem mo_X0_settleThiefs : MO mu_X0_settleThiefs 1 := ⟨in_TB (List.mem_of_getElem? (i := 1159) (by decide +kernel)) (by decide +kernel), in_TB (List.mem_of_getElem? (i := 130) (by decide +kernel)) (by decide +kernel), by decide, by decide, by decide, by decide +kernel⟩
theorem mi_X0_settleThiefs : Cond.instanceMethod yX0_settleThiefs ∈ TB ∧ Cond.selects yX0_settleThiefs.cls yX0_settleThiefs yX0_settleThiefs ∈ TB := ⟨in_TB (List.mem_of_getElem? (i := 1158) (by decide +kernel)) (by decide +kernel), in_TB (List.mem_of_getElem? (i := 52) (by decide +kernel)) (by decide +kernel)⟩
theorem mo_X0_settleCatchers : MO mu_X0_settleCatchers 1 := ⟨in_TB (List.mem_of_getElem? (i := 1163) (by decide +kernel)) (by decide +kernel), in_TB (List.mem_of_getElem? (i := 130) (by decide +kernel)) (by decide +kernel), by decide, by decide, by decide, by decide +kernel⟩
theorem mi_X0_settleCatchers : Cond.instanceMethod yX0_settleCatchers ∈ TB ∧ Cond.selects yX0_settleCatchers.cls yX0_settleCatchers yX0_settleCatchers ∈ TB := ⟨in_TB (List.mem_of_getElem? (i := 1162) (by decide +kernel)) (by decide +kernel), in_TB (List.mem_of_getElem? (i := 53) (by decide +kernel)) (by decide +kernel)⟩
theorem mo_X0_turns : MO mu_X0_turns 4 := ⟨in_TB (List.mem_of_getElem? (i := 1139) (by decide +kernel)) (by decide +kernel), in_TB (List.mem_of_getElem? (i := 130) (by decide +kernel)) (by decide +kernel), by decide, by decide, by decide, by decide +kernel⟩
theorem mi_X0_turns : Cond.instanceMethod yX0_turns ∈ TB ∧ Cond.selects yX0_turns.cls yX0_turns yX0_turns ∈ TB := ⟨in_TB (List.mem_of_getElem? (i := 1137) (by decide +kernel)) (by decide +kernel), in_TB (List.mem_of_getElem? (i := 1138) (by decide +kernel)) (by decide +kernel)⟩
theorem mo_X0_firstTap : MO mu_X0_firstTap 4 := ⟨in_TB (List.mem_of_getElem? (i := 1171) (by decide +kernel)) (by decide +kernel), in_TB (List.mem_of_getElem? (i := 130) (by decide +kernel)) (by decide +kernel), by decide, by decide, by decide, by decide +kernel⟩
theorem mi_X0_firstTap : Cond.instanceMethod yX0_firstTap ∈ TB ∧ Cond.selects yX0_firstTap.cls yX0_firstTap yX0_firstTap ∈ TB := ⟨in_TB (List.mem_of_getElem? (i := 1169) (by decide +kernel)) (by decide +kernel), in_TB (List.mem_of_getElem? (i := 1170) (by decide +kernel)) (by decide +kernel)⟩
theorem mo_X1_init : MO mu_X1_init 2 := ⟨in_TB (List.mem_of_getElem? (i := 376) (by decide +kernel)) (by decide +kernel), in_TB (List.mem_of_getElem? (i := 120) (by decide +kernel)) (by decide +kernel), by decide, by decide, by decide, by decide +kernel⟩
theorem mn_X1_init : Cond.instanceMethod yX1_init ∈ TB := in_TB (List.mem_of_getElem? (i := 375) (by decide +kernel)) (by decide +kernel)
theorem mo_X2_size : MO mu_X2_size 0 := ⟨in_TB (List.mem_of_getElem? (i := 449) (by decide +kernel)) (by decide +kernel), in_TB (List.mem_of_getElem? (i := 111) (by decide +kernel)) (by decide +kernel), by decide, by decide, by decide, by decide +kernel⟩
theorem mi_X2_size : Cond.instanceMethod yX2_size ∈ TB ∧ Cond.selects yX2_size.cls yX2_size yX2_size ∈ TB := ⟨in_TB (List.mem_of_getElem? (i := 447) (by decide +kernel)) (by decide +kernel), in_TB (List.mem_of_getElem? (i := 448) (by decide +kernel)) (by decide +kernel)⟩
theorem mo_X1_unlessHome : MO mu_X1_unlessHome 2 := ⟨in_TB (List.mem_of_getElem? (i := 1068) (by decide +kernel)) (by decide +kernel), in_TB (List.mem_of_getElem? (i := 120) (by decide +kernel)) (by decide +kernel), by decide, by decide, by decide, by decide +kernel⟩
theorem ms_X1_unlessHome : Cond.static yX1_unlessHome ∈ TB := in_TB (List.mem_of_getElem? (i := 1067) (by decide +kernel)) (by decide +kernel)
theorem mo_X1_begin : MO mu_X1_begin 1 := ⟨in_TB (List.mem_of_getElem? (i := 1062) (by decide +kernel)) (by decide +kernel), in_TB (List.mem_of_getElem? (i := 120) (by decide +kernel)) (by decide +kernel), by decide, by decide, by decide, by decide +kernel⟩
theorem mi_X1_begin : Cond.instanceMethod yX1_begin ∈ TB ∧ Cond.selects yX1_begin.cls yX1_begin yX1_begin ∈ TB := ⟨in_TB (List.mem_of_getElem? (i := 1061) (by decide +kernel)) (by decide +kernel), in_TB (List.mem_of_getElem? (i := 43) (by decide +kernel)) (by decide +kernel)⟩
theorem mo_X1_isEmpty : MO mu_X1_isEmpty 0 := ⟨in_TB (List.mem_of_getElem? (i := 1072) (by decide +kernel)) (by decide +kernel), in_TB (List.mem_of_getElem? (i := 120) (by decide +kernel)) (by decide +kernel), by decide, by decide, by decide, by decide +kernel⟩
theorem mi_X1_isEmpty : Cond.instanceMethod yX1_isEmpty ∈ TB ∧ Cond.selects yX1_isEmpty.cls yX1_isEmpty yX1_isEmpty ∈ TB := ⟨in_TB (List.mem_of_getElem? (i := 1071) (by decide +kernel)) (by decide +kernel), in_TB (List.mem_of_getElem? (i := 44) (by decide +kernel)) (by decide +kernel)⟩
theorem mo_X1_hasPairIn : MO mu_X1_hasPairIn 1 := ⟨in_TB (List.mem_of_getElem? (i := 1082) (by decide +kernel)) (by decide +kernel), in_TB (List.mem_of_getElem? (i := 120) (by decide +kernel)) (by decide +kernel), by decide, by decide, by decide, by decide +kernel⟩
theorem mi_X1_hasPairIn : Cond.instanceMethod yX1_hasPairIn ∈ TB ∧ Cond.selects yX1_hasPairIn.cls yX1_hasPairIn yX1_hasPairIn ∈ TB := ⟨in_TB (List.mem_of_getElem? (i := 1081) (by decide +kernel)) (by decide +kernel), in_TB (List.mem_of_getElem? (i := 46) (by decide +kernel)) (by decide +kernel)⟩
theorem mo_X1_oneRound : MO mu_X1_oneRound 2 := ⟨in_TB (List.mem_of_getElem? (i := 1076) (by decide +kernel)) (by decide +kernel), in_TB (List.mem_of_getElem? (i := 120) (by decide +kernel)) (by decide +kernel), by decide, by decide, by decide, by decide +kernel⟩
theorem mi_X1_oneRound : Cond.instanceMethod yX1_oneRound ∈ TB ∧ Cond.selects yX1_oneRound.cls yX1_oneRound yX1_oneRound ∈ TB := ⟨in_TB (List.mem_of_getElem? (i := 1075) (by decide +kernel)) (by decide +kernel), in_TB (List.mem_of_getElem? (i := 45) (by decide +kernel)) (by decide +kernel)⟩
theorem mo_X1_rounds : MO mu_X1_rounds 1 := ⟨in_TB (List.mem_of_getElem? (i := 1058) (by decide +kernel)) (by decide +kernel), in_TB (List.mem_of_getElem? (i := 120) (by decide +kernel)) (by decide +kernel), by decide, by decide, by decide, by decide +kernel⟩
theorem mi_X1_rounds : Cond.instanceMethod yX1_rounds ∈ TB ∧ Cond.selects yX1_rounds.cls yX1_rounds yX1_rounds ∈ TB := ⟨in_TB (List.mem_of_getElem? (i := 1056) (by decide +kernel)) (by decide +kernel), in_TB (List.mem_of_getElem? (i := 1057) (by decide +kernel)) (by decide +kernel)⟩
theorem mo_X2_init : MO mu_X2_init 1 := ⟨in_TB (List.mem_of_getElem? (i := 143) (by decide +kernel)) (by decide +kernel), in_TB (List.mem_of_getElem? (i := 111) (by decide +kernel)) (by decide +kernel), by decide, by decide, by decide, by decide +kernel⟩
theorem mn_X2_init : Cond.instanceMethod yX2_init ∈ TB := in_TB (List.mem_of_getElem? (i := 142) (by decide +kernel)) (by decide +kernel)
theorem mo_X2_put : MO mu_X2_put 2 := ⟨in_TB (List.mem_of_getElem? (i := 457) (by decide +kernel)) (by decide +kernel), in_TB (List.mem_of_getElem? (i := 111) (by decide +kernel)) (by decide +kernel), by decide, by decide, by decide, by decide +kernel⟩
theorem mi_X2_put : Cond.instanceMethod yX2_put ∈ TB ∧ Cond.selects yX2_put.cls yX2_put yX2_put ∈ TB := ⟨in_TB (List.mem_of_getElem? (i := 455) (by decide +kernel)) (by decide +kernel), in_TB (List.mem_of_getElem? (i := 456) (by decide +kernel)) (by decide +kernel)⟩
theorem mo_X2_add : MO mu_X2_add 1 := ⟨in_TB (List.mem_of_getElem? (i := 244) (by decide +kernel)) (by decide +kernel), in_TB (List.mem_of_getElem? (i := 111) (by decide +kernel)) (by decide +kernel), by decide, by decide, by decide, by decide +kernel⟩
theorem mi_X2_add : Cond.instanceMethod yX2_add ∈ TB ∧ Cond.selects yX2_add.cls yX2_add yX2_add ∈ TB := ⟨in_TB (List.mem_of_getElem? (i := 242) (by decide +kernel)) (by decide +kernel), in_TB (List.mem_of_getElem? (i := 243) (by decide +kernel)) (by decide +kernel)⟩
theorem mo_X2_cutTo : MO mu_X2_cutTo 1 := ⟨in_TB (List.mem_of_getElem? (i := 465) (by decide +kernel)) (by decide +kernel), in_TB (List.mem_of_getElem? (i := 111) (by decide +kernel)) (by decide +kernel), by decide, by decide, by decide, by decide +kernel⟩
theorem mi_X2_cutTo : Cond.instanceMethod yX2_cutTo ∈ TB ∧ Cond.selects yX2_cutTo.cls yX2_cutTo yX2_cutTo ∈ TB := ⟨in_TB (List.mem_of_getElem? (i := 463) (by decide +kernel)) (by decide +kernel), in_TB (List.mem_of_getElem? (i := 464) (by decide +kernel)) (by decide +kernel)⟩
theorem mo_X2_dropFirst : MO mu_X2_dropFirst 0 := ⟨in_TB (List.mem_of_getElem? (i := 836) (by decide +kernel)) (by decide +kernel), in_TB (List.mem_of_getElem? (i := 111) (by decide +kernel)) (by decide +kernel), by decide, by decide, by decide, by decide +kernel⟩
theorem mi_X2_dropFirst : Cond.instanceMethod yX2_dropFirst ∈ TB ∧ Cond.selects yX2_dropFirst.cls yX2_dropFirst yX2_dropFirst ∈ TB := ⟨in_TB (List.mem_of_getElem? (i := 834) (by decide +kernel)) (by decide +kernel), in_TB (List.mem_of_getElem? (i := 835) (by decide +kernel)) (by decide +kernel)⟩
theorem mo_X2_copyFrom : MO mu_X2_copyFrom 1 := ⟨in_TB (List.mem_of_getElem? (i := 1183) (by decide +kernel)) (by decide +kernel), in_TB (List.mem_of_getElem? (i := 111) (by decide +kernel)) (by decide +kernel), by decide, by decide, by decide, by decide +kernel⟩
theorem mi_X2_copyFrom : Cond.instanceMethod yX2_copyFrom ∈ TB ∧ Cond.selects yX2_copyFrom.cls yX2_copyFrom yX2_copyFrom ∈ TB := ⟨in_TB (List.mem_of_getElem? (i := 1181) (by decide +kernel)) (by decide +kernel), in_TB (List.mem_of_getElem? (i := 1182) (by decide +kernel)) (by decide +kernel)⟩
theorem mo_X3_init : MO mu_X3_init 2 := ⟨in_TB (List.mem_of_getElem? (i := 318) (by decide +kernel)) (by decide +kernel), in_TB (List.mem_of_getElem? (i := 117) (by decide +kernel)) (by decide +kernel), by decide, by decide, by decide, by decide +kernel⟩
theorem mn_X3_init : Cond.instanceMethod yX3_init ∈ TB := in_TB (List.mem_of_getElem? (i := 317) (by decide +kernel)) (by decide +kernel)
theorem mo_X3_forget : MO mu_X3_forget 0 := ⟨in_TB (List.mem_of_getElem? (i := 470) (by decide +kernel)) (by decide +kernel), in_TB (List.mem_of_getElem? (i := 117) (by decide +kernel)) (by decide +kernel), by decide, by decide, by decide, by decide +kernel⟩
theorem mi_X3_forget : Cond.instanceMethod yX3_forget ∈ TB ∧ Cond.selects yX3_forget.cls yX3_forget yX3_forget ∈ TB := ⟨in_TB (List.mem_of_getElem? (i := 468) (by decide +kernel)) (by decide +kernel), in_TB (List.mem_of_getElem? (i := 469) (by decide +kernel)) (by decide +kernel)⟩
theorem mo_X4_init : MO mu_X4_init 0 := ⟨in_TB (List.mem_of_getElem? (i := 215) (by decide +kernel)) (by decide +kernel), in_TB (List.mem_of_getElem? (i := 115) (by decide +kernel)) (by decide +kernel), by decide, by decide, by decide, by decide +kernel⟩
theorem mn_X4_init : Cond.instanceMethod yX4_init ∈ TB := in_TB (List.mem_of_getElem? (i := 214) (by decide +kernel)) (by decide +kernel)
theorem mo_X9_init : MO mu_X9_init 0 := ⟨in_TB (List.mem_of_getElem? (i := 166) (by decide +kernel)) (by decide +kernel), in_TB (List.mem_of_getElem? (i := 114) (by decide +kernel)) (by decide +kernel), by decide, by decide, by decide, by decide +kernel⟩
theorem mn_X9_init : Cond.instanceMethod yX9_init ∈ TB := in_TB (List.mem_of_getElem? (i := 165) (by decide +kernel)) (by decide +kernel)
theorem mo_X5_init : MO mu_X5_init 0 := ⟨in_TB (List.mem_of_getElem? (i := 160) (by decide +kernel)) (by decide +kernel), in_TB (List.mem_of_getElem? (i := 113) (by decide +kernel)) (by decide +kernel), by decide, by decide, by decide, by decide +kernel⟩
theorem mn_X5_init : Cond.instanceMethod yX5_init ∈ TB := in_TB (List.mem_of_getElem? (i := 159) (by decide +kernel)) (by decide +kernel)
theorem mo_X5_found : MO mu_X5_found 0 := ⟨in_TB (List.mem_of_getElem? (i := 742) (by decide +kernel)) (by decide +kernel), in_TB (List.mem_of_getElem? (i := 113) (by decide +kernel)) (by decide +kernel), by decide, by decide, by decide, by decide +kernel⟩
theorem mi_X5_found : Cond.instanceMethod yX5_found ∈ TB ∧ Cond.selects yX5_found.cls yX5_found yX5_found ∈ TB := ⟨in_TB (List.mem_of_getElem? (i := 740) (by decide +kernel)) (by decide +kernel), in_TB (List.mem_of_getElem? (i := 741) (by decide +kernel)) (by decide +kernel)⟩
theorem mo_X5_foundAt : MO mu_X5_foundAt 0 := ⟨in_TB (List.mem_of_getElem? (i := 746) (by decide +kernel)) (by decide +kernel), in_TB (List.mem_of_getElem? (i := 113) (by decide +kernel)) (by decide +kernel), by decide, by decide, by decide, by decide +kernel⟩
theorem mi_X5_foundAt : Cond.instanceMethod yX5_foundAt ∈ TB ∧ Cond.selects yX5_foundAt.cls yX5_foundAt yX5_foundAt ∈ TB := ⟨in_TB (List.mem_of_getElem? (i := 744) (by decide +kernel)) (by decide +kernel), in_TB (List.mem_of_getElem? (i := 745) (by decide +kernel)) (by decide +kernel)⟩
theorem mo_X9_isLetter : MO mu_X9_isLetter 1 := ⟨in_TB (List.mem_of_getElem? (i := 520) (by decide +kernel)) (by decide +kernel), in_TB (List.mem_of_getElem? (i := 114) (by decide +kernel)) (by decide +kernel), by decide, by decide, by decide, by decide +kernel⟩
theorem ms_X9_isLetter : Cond.static yX9_isLetter ∈ TB := in_TB (List.mem_of_getElem? (i := 519) (by decide +kernel)) (by decide +kernel)
theorem mo_X9_spelling : MO mu_X9_spelling 1 := ⟨in_TB (List.mem_of_getElem? (i := 527) (by decide +kernel)) (by decide +kernel), in_TB (List.mem_of_getElem? (i := 114) (by decide +kernel)) (by decide +kernel), by decide, by decide, by decide, by decide +kernel⟩
theorem ms_X9_spelling : Cond.static yX9_spelling ∈ TB := in_TB (List.mem_of_getElem? (i := 526) (by decide +kernel)) (by decide +kernel)
theorem mo_J0_coder_7d493 : MO mu_J0_coder_7d493 0 := ⟨in_TB (List.mem_of_getElem? (i := 558) (by decide +kernel)) (by decide +kernel), in_TB (List.mem_of_getElem? (i := 122) (by decide +kernel)) (by decide +kernel), by decide, by decide, by decide, by decide +kernel⟩
theorem mi_J0_coder_7d493 : Cond.instanceMethod yJ0_coder_7d493 ∈ TB ∧ Cond.selects yJ0_coder_7d493.cls yJ0_coder_7d493 yJ0_coder_7d493 ∈ TB := ⟨in_TB (List.mem_of_getElem? (i := 556) (by decide +kernel)) (by decide +kernel), in_TB (List.mem_of_getElem? (i := 557) (by decide +kernel)) (by decide +kernel)⟩
theorem mo_J0_length_8abf5 : MO mu_J0_length_8abf5 0 := ⟨in_TB (List.mem_of_getElem? (i := 554) (by decide +kernel)) (by decide +kernel), in_TB (List.mem_of_getElem? (i := 122) (by decide +kernel)) (by decide +kernel), by decide, by decide, by decide, by decide +kernel⟩
theorem mi_J0_length_8abf5 : Cond.instanceMethod yJ0_length_8abf5 ∈ TB ∧ Cond.selects yJ0_length_8abf5.cls yJ0_length_8abf5 yJ0_length_8abf5 ∈ TB := ⟨in_TB (List.mem_of_getElem? (i := 552) (by decide +kernel)) (by decide +kernel), in_TB (List.mem_of_getElem? (i := 553) (by decide +kernel)) (by decide +kernel)⟩
theorem mo_J0_isLatin1_aae02 : MO mu_J0_isLatin1_aae02 0 := ⟨in_TB (List.mem_of_getElem? (i := 568) (by decide +kernel)) (by decide +kernel), in_TB (List.mem_of_getElem? (i := 122) (by decide +kernel)) (by decide +kernel), by decide, by decide, by decide, by decide +kernel⟩
theorem mi_J0_isLatin1_aae02 : Cond.instanceMethod yJ0_isLatin1_aae02 ∈ TB ∧ Cond.selects yJ0_isLatin1_aae02.cls yJ0_isLatin1_aae02 yJ0_isLatin1_aae02 ∈ TB := ⟨in_TB (List.mem_of_getElem? (i := 566) (by decide +kernel)) (by decide +kernel), in_TB (List.mem_of_getElem? (i := 567) (by decide +kernel)) (by decide +kernel)⟩
theorem mo_J3_checkIndex_8e157 : MO mu_J3_checkIndex_8e157 3 := ⟨in_TB (List.mem_of_getElem? (i := 579) (by decide +kernel)) (by decide +kernel), in_TB (List.mem_of_getElem? (i := 124) (by decide +kernel)) (by decide +kernel), by decide, by decide, by decide, by decide +kernel⟩
theorem ms_J3_checkIndex_8e157 : Cond.static yJ3_checkIndex_8e157 ∈ TB := in_TB (List.mem_of_getElem? (i := 578) (by decide +kernel)) (by decide +kernel)
theorem mo_J0_checkIndex_df160 : MO mu_J0_checkIndex_df160 2 := ⟨in_TB (List.mem_of_getElem? (i := 574) (by decide +kernel)) (by decide +kernel), in_TB (List.mem_of_getElem? (i := 122) (by decide +kernel)) (by decide +kernel), by decide, by decide, by decide, by decide +kernel⟩
theorem ms_J0_checkIndex_df160 : Cond.static yJ0_checkIndex_df160 ∈ TB := in_TB (List.mem_of_getElem? (i := 573) (by decide +kernel)) (by decide +kernel)
theorem mo_J1_charAt_3b067 : MO mu_J1_charAt_3b067 2 := ⟨in_TB (List.mem_of_getElem? (i := 571) (by decide +kernel)) (by decide +kernel), in_TB (List.mem_of_getElem? (i := 123) (by decide +kernel)) (by decide +kernel), by decide, by decide, by decide, by decide +kernel⟩
theorem ms_J1_charAt_3b067 : Cond.static yJ1_charAt_3b067 ∈ TB := in_TB (List.mem_of_getElem? (i := 570) (by decide +kernel)) (by decide +kernel)
theorem mo_J2_length_9d52b : MO mu_J2_length_9d52b 1 := ⟨in_TB (List.mem_of_getElem? (i := 588) (by decide +kernel)) (by decide +kernel), in_TB (List.mem_of_getElem? (i := 125) (by decide +kernel)) (by decide +kernel), by decide, by decide, by decide, by decide +kernel⟩
theorem ms_J2_length_9d52b : Cond.static yJ2_length_9d52b ∈ TB := in_TB (List.mem_of_getElem? (i := 587) (by decide +kernel)) (by decide +kernel)
theorem mo_J2_checkIndex_2214a : MO mu_J2_checkIndex_2214a 2 := ⟨in_TB (List.mem_of_getElem? (i := 585) (by decide +kernel)) (by decide +kernel), in_TB (List.mem_of_getElem? (i := 125) (by decide +kernel)) (by decide +kernel), by decide, by decide, by decide, by decide +kernel⟩
theorem ms_J2_checkIndex_2214a : Cond.static yJ2_checkIndex_2214a ∈ TB := in_TB (List.mem_of_getElem? (i := 584) (by decide +kernel)) (by decide +kernel)
theorem mo_J2_getChar_3b067 : MO mu_J2_getChar_3b067 2 := ⟨in_TB (List.mem_of_getElem? (i := 592) (by decide +kernel)) (by decide +kernel), in_TB (List.mem_of_getElem? (i := 125) (by decide +kernel)) (by decide +kernel), by decide, by decide, by decide, by decide +kernel⟩
theorem ms_J2_getChar_3b067 : Cond.static yJ2_getChar_3b067 ∈ TB := in_TB (List.mem_of_getElem? (i := 591) (by decide +kernel)) (by decide +kernel)
theorem mo_J2_charAt_3b067 : MO mu_J2_charAt_3b067 2 := ⟨in_TB (List.mem_of_getElem? (i := 582) (by decide +kernel)) (by decide +kernel), in_TB (List.mem_of_getElem? (i := 125) (by decide +kernel)) (by decide +kernel), by decide, by decide, by decide, by decide +kernel⟩
theorem ms_J2_charAt_3b067 : Cond.static yJ2_charAt_3b067 ∈ TB := in_TB (List.mem_of_getElem? (i := 581) (by decide +kernel)) (by decide +kernel)
theorem mo_J0_charAt_5068e : MO mu_J0_charAt_5068e 1 := ⟨in_TB (List.mem_of_getElem? (i := 564) (by decide +kernel)) (by decide +kernel), in_TB (List.mem_of_getElem? (i := 122) (by decide +kernel)) (by decide +kernel), by decide, by decide, by decide, by decide +kernel⟩
theorem mi_J0_charAt_5068e : Cond.instanceMethod yJ0_charAt_5068e ∈ TB ∧ Cond.selects yJ0_charAt_5068e.cls yJ0_charAt_5068e yJ0_charAt_5068e ∈ TB := ⟨in_TB (List.mem_of_getElem? (i := 562) (by decide +kernel)) (by decide +kernel), in_TB (List.mem_of_getElem? (i := 563) (by decide +kernel)) (by decide +kernel)⟩
theorem mo_X9_isSpelled : MO mu_X9_isSpelled 4 := ⟨in_TB (List.mem_of_getElem? (i := 550) (by decide +kernel)) (by decide +kernel), in_TB (List.mem_of_getElem? (i := 114) (by decide +kernel)) (by decide +kernel), by decide, by decide, by decide, by decide +kernel⟩
theorem ms_X9_isSpelled : Cond.static yX9_isSpelled ∈ TB := in_TB (List.mem_of_getElem? (i := 549) (by decide +kernel)) (by decide +kernel)
theorem mo_X9_note : MO mu_X9_note 3 := ⟨in_TB (List.mem_of_getElem? (i := 602) (by decide +kernel)) (by decide +kernel), in_TB (List.mem_of_getElem? (i := 114) (by decide +kernel)) (by decide +kernel), by decide, by decide, by decide, by decide +kernel⟩
theorem mi_X9_note : Cond.instanceMethod yX9_note ∈ TB ∧ Cond.selects yX9_note.cls yX9_note yX9_note ∈ TB := ⟨in_TB (List.mem_of_getElem? (i := 601) (by decide +kernel)) (by decide +kernel), in_TB (List.mem_of_getElem? (i := 3) (by decide +kernel)) (by decide +kernel)⟩
theorem mo_X9_scanWord : MO mu_X9_scanWord 2 := ⟨in_TB (List.mem_of_getElem? (i := 524) (by decide +kernel)) (by decide +kernel), in_TB (List.mem_of_getElem? (i := 114) (by decide +kernel)) (by decide +kernel), by decide, by decide, by decide, by decide +kernel⟩
theorem mi_X9_scanWord : Cond.instanceMethod yX9_scanWord ∈ TB ∧ Cond.selects yX9_scanWord.cls yX9_scanWord yX9_scanWord ∈ TB := ⟨in_TB (List.mem_of_getElem? (i := 523) (by decide +kernel)) (by decide +kernel), in_TB (List.mem_of_getElem? (i := 2) (by decide +kernel)) (by decide +kernel)⟩
theorem mo_X9_isDigit : MO mu_X9_isDigit 1 := ⟨in_TB (List.mem_of_getElem? (i := 606) (by decide +kernel)) (by decide +kernel), in_TB (List.mem_of_getElem? (i := 114) (by decide +kernel)) (by decide +kernel), by decide, by decide, by decide, by decide +kernel⟩
theorem ms_X9_isDigit : Cond.static yX9_isDigit ∈ TB := in_TB (List.mem_of_getElem? (i := 605) (by decide +kernel)) (by decide +kernel)
theorem mo_X9_scanNumber : MO mu_X9_scanNumber 2 := ⟨in_TB (List.mem_of_getElem? (i := 610) (by decide +kernel)) (by decide +kernel), in_TB (List.mem_of_getElem? (i := 114) (by decide +kernel)) (by decide +kernel), by decide, by decide, by decide, by decide +kernel⟩
theorem mi_X9_scanNumber : Cond.instanceMethod yX9_scanNumber ∈ TB ∧ Cond.selects yX9_scanNumber.cls yX9_scanNumber yX9_scanNumber ∈ TB := ⟨in_TB (List.mem_of_getElem? (i := 609) (by decide +kernel)) (by decide +kernel), in_TB (List.mem_of_getElem? (i := 4) (by decide +kernel)) (by decide +kernel)⟩
theorem mo_X9_kindOfSign : MO mu_X9_kindOfSign 1 := ⟨in_TB (List.mem_of_getElem? (i := 614) (by decide +kernel)) (by decide +kernel), in_TB (List.mem_of_getElem? (i := 114) (by decide +kernel)) (by decide +kernel), by decide, by decide, by decide, by decide +kernel⟩
theorem ms_X9_kindOfSign : Cond.static yX9_kindOfSign ∈ TB := in_TB (List.mem_of_getElem? (i := 613) (by decide +kernel)) (by decide +kernel)
theorem mo_X9_scanOne : MO mu_X9_scanOne 2 := ⟨in_TB (List.mem_of_getElem? (i := 516) (by decide +kernel)) (by decide +kernel), in_TB (List.mem_of_getElem? (i := 114) (by decide +kernel)) (by decide +kernel), by decide, by decide, by decide, by decide +kernel⟩
theorem mi_X9_scanOne : Cond.instanceMethod yX9_scanOne ∈ TB ∧ Cond.selects yX9_scanOne.cls yX9_scanOne yX9_scanOne ∈ TB := ⟨in_TB (List.mem_of_getElem? (i := 515) (by decide +kernel)) (by decide +kernel), in_TB (List.mem_of_getElem? (i := 1) (by decide +kernel)) (by decide +kernel)⟩
theorem mo_X9_scan : MO mu_X9_scan 1 := ⟨in_TB (List.mem_of_getElem? (i := 510) (by decide +kernel)) (by decide +kernel), in_TB (List.mem_of_getElem? (i := 114) (by decide +kernel)) (by decide +kernel), by decide, by decide, by decide, by decide +kernel⟩
theorem mi_X9_scan : Cond.instanceMethod yX9_scan ∈ TB ∧ Cond.selects yX9_scan.cls yX9_scan yX9_scan ∈ TB := ⟨in_TB (List.mem_of_getElem? (i := 508) (by decide +kernel)) (by decide +kernel), in_TB (List.mem_of_getElem? (i := 509) (by decide +kernel)) (by decide +kernel)⟩
theorem mo_X9_kindAt : MO mu_X9_kindAt 1 := ⟨in_TB (List.mem_of_getElem? (i := 619) (by decide +kernel)) (by decide +kernel), in_TB (List.mem_of_getElem? (i := 114) (by decide +kernel)) (by decide +kernel), by decide, by decide, by decide, by decide +kernel⟩
theorem mi_X9_kindAt : Cond.instanceMethod yX9_kindAt ∈ TB ∧ Cond.selects yX9_kindAt.cls yX9_kindAt yX9_kindAt ∈ TB := ⟨in_TB (List.mem_of_getElem? (i := 617) (by decide +kernel)) (by decide +kernel), in_TB (List.mem_of_getElem? (i := 618) (by decide +kernel)) (by decide +kernel)⟩
theorem mo_X9_placeAt : MO mu_X9_placeAt 1 := ⟨in_TB (List.mem_of_getElem? (i := 631) (by decide +kernel)) (by decide +kernel), in_TB (List.mem_of_getElem? (i := 114) (by decide +kernel)) (by decide +kernel), by decide, by decide, by decide, by decide +kernel⟩
theorem mi_X9_placeAt : Cond.instanceMethod yX9_placeAt ∈ TB ∧ Cond.selects yX9_placeAt.cls yX9_placeAt yX9_placeAt ∈ TB := ⟨in_TB (List.mem_of_getElem? (i := 629) (by decide +kernel)) (by decide +kernel), in_TB (List.mem_of_getElem? (i := 630) (by decide +kernel)) (by decide +kernel)⟩
theorem mo_X5_fail : MO mu_X5_fail 1 := ⟨in_TB (List.mem_of_getElem? (i := 627) (by decide +kernel)) (by decide +kernel), in_TB (List.mem_of_getElem? (i := 113) (by decide +kernel)) (by decide +kernel), by decide, by decide, by decide, by decide +kernel⟩
theorem mi_X5_fail : Cond.instanceMethod yX5_fail ∈ TB ∧ Cond.selects yX5_fail.cls yX5_fail yX5_fail ∈ TB := ⟨in_TB (List.mem_of_getElem? (i := 626) (by decide +kernel)) (by decide +kernel), in_TB (List.mem_of_getElem? (i := 6) (by decide +kernel)) (by decide +kernel)⟩
theorem mo_X5_next : MO mu_X5_next 0 := ⟨in_TB (List.mem_of_getElem? (i := 635) (by decide +kernel)) (by decide +kernel), in_TB (List.mem_of_getElem? (i := 113) (by decide +kernel)) (by decide +kernel), by decide, by decide, by decide, by decide +kernel⟩
theorem mi_X5_next : Cond.instanceMethod yX5_next ∈ TB ∧ Cond.selects yX5_next.cls yX5_next yX5_next ∈ TB := ⟨in_TB (List.mem_of_getElem? (i := 634) (by decide +kernel)) (by decide +kernel), in_TB (List.mem_of_getElem? (i := 7) (by decide +kernel)) (by decide +kernel)⟩
theorem mo_X5_opens : MO mu_X5_opens 0 := ⟨in_TB (List.mem_of_getElem? (i := 651) (by decide +kernel)) (by decide +kernel), in_TB (List.mem_of_getElem? (i := 113) (by decide +kernel)) (by decide +kernel), by decide, by decide, by decide, by decide +kernel⟩
theorem mi_X5_opens : Cond.instanceMethod yX5_opens ∈ TB ∧ Cond.selects yX5_opens.cls yX5_opens yX5_opens ∈ TB := ⟨in_TB (List.mem_of_getElem? (i := 650) (by decide +kernel)) (by decide +kernel), in_TB (List.mem_of_getElem? (i := 11) (by decide +kernel)) (by decide +kernel)⟩
theorem mo_X5_order : MO mu_X5_order 1 := ⟨in_TB (List.mem_of_getElem? (i := 655) (by decide +kernel)) (by decide +kernel), in_TB (List.mem_of_getElem? (i := 113) (by decide +kernel)) (by decide +kernel), by decide, by decide, by decide, by decide +kernel⟩
theorem mi_X5_order : Cond.instanceMethod yX5_order ∈ TB ∧ Cond.selects yX5_order.cls yX5_order yX5_order ∈ TB := ⟨in_TB (List.mem_of_getElem? (i := 654) (by decide +kernel)) (by decide +kernel), in_TB (List.mem_of_getElem? (i := 12) (by decide +kernel)) (by decide +kernel)⟩
theorem mo_X5_take : MO mu_X5_take 1 := ⟨in_TB (List.mem_of_getElem? (i := 691) (by decide +kernel)) (by decide +kernel), in_TB (List.mem_of_getElem? (i := 113) (by decide +kernel)) (by decide +kernel), by decide, by decide, by decide, by decide +kernel⟩
theorem mi_X5_take : Cond.instanceMethod yX5_take ∈ TB ∧ Cond.selects yX5_take.cls yX5_take yX5_take ∈ TB := ⟨in_TB (List.mem_of_getElem? (i := 690) (by decide +kernel)) (by decide +kernel), in_TB (List.mem_of_getElem? (i := 20) (by decide +kernel)) (by decide +kernel)⟩
theorem mo_X5_orderWith : MO mu_X5_orderWith 2 := ⟨in_TB (List.mem_of_getElem? (i := 679) (by decide +kernel)) (by decide +kernel), in_TB (List.mem_of_getElem? (i := 113) (by decide +kernel)) (by decide +kernel), by decide, by decide, by decide, by decide +kernel⟩
theorem mi_X5_orderWith : Cond.instanceMethod yX5_orderWith ∈ TB ∧ Cond.selects yX5_orderWith.cls yX5_orderWith yX5_orderWith ∈ TB := ⟨in_TB (List.mem_of_getElem? (i := 678) (by decide +kernel)) (by decide +kernel), in_TB (List.mem_of_getElem? (i := 17) (by decide +kernel)) (by decide +kernel)⟩
theorem mo_X5_landHere : MO mu_X5_landHere 1 := ⟨in_TB (List.mem_of_getElem? (i := 699) (by decide +kernel)) (by decide +kernel), in_TB (List.mem_of_getElem? (i := 113) (by decide +kernel)) (by decide +kernel), by decide, by decide, by decide, by decide +kernel⟩
theorem mi_X5_landHere : Cond.instanceMethod yX5_landHere ∈ TB ∧ Cond.selects yX5_landHere.cls yX5_landHere yX5_landHere ∈ TB := ⟨in_TB (List.mem_of_getElem? (i := 698) (by decide +kernel)) (by decide +kernel), in_TB (List.mem_of_getElem? (i := 22) (by decide +kernel)) (by decide +kernel)⟩
theorem mo_X9_valueAt : MO mu_X9_valueAt 1 := ⟨in_TB (List.mem_of_getElem? (i := 675) (by decide +kernel)) (by decide +kernel), in_TB (List.mem_of_getElem? (i := 114) (by decide +kernel)) (by decide +kernel), by decide, by decide, by decide, by decide +kernel⟩
theorem mi_X9_valueAt : Cond.instanceMethod yX9_valueAt ∈ TB ∧ Cond.selects yX9_valueAt.cls yX9_valueAt yX9_valueAt ∈ TB := ⟨in_TB (List.mem_of_getElem? (i := 673) (by decide +kernel)) (by decide +kernel), in_TB (List.mem_of_getElem? (i := 674) (by decide +kernel)) (by decide +kernel)⟩
theorem mo_X5_readNumber : MO mu_X5_readNumber 0 := ⟨in_TB (List.mem_of_getElem? (i := 671) (by decide +kernel)) (by decide +kernel), in_TB (List.mem_of_getElem? (i := 113) (by decide +kernel)) (by decide +kernel), by decide, by decide, by decide, by decide +kernel⟩
theorem mi_X5_readNumber : Cond.instanceMethod yX5_readNumber ∈ TB ∧ Cond.selects yX5_readNumber.cls yX5_readNumber yX5_readNumber ∈ TB := ⟨in_TB (List.mem_of_getElem? (i := 670) (by decide +kernel)) (by decide +kernel), in_TB (List.mem_of_getElem? (i := 16) (by decide +kernel)) (by decide +kernel)⟩
theorem mo_X5_readName : MO mu_X5_readName 0 := ⟨in_TB (List.mem_of_getElem? (i := 683) (by decide +kernel)) (by decide +kernel), in_TB (List.mem_of_getElem? (i := 113) (by decide +kernel)) (by decide +kernel), by decide, by decide, by decide, by decide +kernel⟩
theorem mi_X5_readName : Cond.instanceMethod yX5_readName ∈ TB ∧ Cond.selects yX5_readName.cls yX5_readName yX5_readName ∈ TB := ⟨in_TB (List.mem_of_getElem? (i := 682) (by decide +kernel)) (by decide +kernel), in_TB (List.mem_of_getElem? (i := 18) (by decide +kernel)) (by decide +kernel)⟩
theorem mo_X5_readBoth : MO mu_X5_readBoth 0 := ⟨in_TB (List.mem_of_getElem? (i := 643) (by decide +kernel)) (by decide +kernel), in_TB (List.mem_of_getElem? (i := 113) (by decide +kernel)) (by decide +kernel), by decide, by decide, by decide, by decide +kernel⟩
theorem mi_X5_readBoth : Cond.instanceMethod yX5_readBoth ∈ TB ∧ Cond.selects yX5_readBoth.cls yX5_readBoth yX5_readBoth ∈ TB := ⟨in_TB (List.mem_of_getElem? (i := 642) (by decide +kernel)) (by decide +kernel), in_TB (List.mem_of_getElem? (i := 9) (by decide +kernel)) (by decide +kernel)⟩
theorem mo_X5_readEither : MO mu_X5_readEither 0 := ⟨in_TB (List.mem_of_getElem? (i := 639) (by decide +kernel)) (by decide +kernel), in_TB (List.mem_of_getElem? (i := 113) (by decide +kernel)) (by decide +kernel), by decide, by decide, by decide, by decide +kernel⟩
theorem mi_X5_readEither : Cond.instanceMethod yX5_readEither ∈ TB ∧ Cond.selects yX5_readEither.cls yX5_readEither yX5_readEither ∈ TB := ⟨in_TB (List.mem_of_getElem? (i := 638) (by decide +kernel)) (by decide +kernel), in_TB (List.mem_of_getElem? (i := 8) (by decide +kernel)) (by decide +kernel)⟩
theorem mo_X5_readIf : MO mu_X5_readIf 0 := ⟨in_TB (List.mem_of_getElem? (i := 695) (by decide +kernel)) (by decide +kernel), in_TB (List.mem_of_getElem? (i := 113) (by decide +kernel)) (by decide +kernel), by decide, by decide, by decide, by decide +kernel⟩
theorem mi_X5_readIf : Cond.instanceMethod yX5_readIf ∈ TB ∧ Cond.selects yX5_readIf.cls yX5_readIf yX5_readIf ∈ TB := ⟨in_TB (List.mem_of_getElem? (i := 694) (by decide +kernel)) (by decide +kernel), in_TB (List.mem_of_getElem? (i := 21) (by decide +kernel)) (by decide +kernel)⟩
theorem mo_X5_readOne : MO mu_X5_readOne 0 := ⟨in_TB (List.mem_of_getElem? (i := 667) (by decide +kernel)) (by decide +kernel), in_TB (List.mem_of_getElem? (i := 113) (by decide +kernel)) (by decide +kernel), by decide, by decide, by decide, by decide +kernel⟩
theorem mi_X5_readOne : Cond.instanceMethod yX5_readOne ∈ TB ∧ Cond.selects yX5_readOne.cls yX5_readOne yX5_readOne ∈ TB := ⟨in_TB (List.mem_of_getElem? (i := 666) (by decide +kernel)) (by decide +kernel), in_TB (List.mem_of_getElem? (i := 15) (by decide +kernel)) (by decide +kernel)⟩
theorem mo_X5_readOpened : MO mu_X5_readOpened 0 := ⟨in_TB (List.mem_of_getElem? (i := 687) (by decide +kernel)) (by decide +kernel), in_TB (List.mem_of_getElem? (i := 113) (by decide +kernel)) (by decide +kernel), by decide, by decide, by decide, by decide +kernel⟩
theorem mi_X5_readOpened : Cond.instanceMethod yX5_readOpened ∈ TB ∧ Cond.selects yX5_readOpened.cls yX5_readOpened yX5_readOpened ∈ TB := ⟨in_TB (List.mem_of_getElem? (i := 686) (by decide +kernel)) (by decide +kernel), in_TB (List.mem_of_getElem? (i := 19) (by decide +kernel)) (by decide +kernel)⟩
theorem mo_X5_readProduct : MO mu_X5_readProduct 0 := ⟨in_TB (List.mem_of_getElem? (i := 663) (by decide +kernel)) (by decide +kernel), in_TB (List.mem_of_getElem? (i := 113) (by decide +kernel)) (by decide +kernel), by decide, by decide, by decide, by decide +kernel⟩
theorem mi_X5_readProduct : Cond.instanceMethod yX5_readProduct ∈ TB ∧ Cond.selects yX5_readProduct.cls yX5_readProduct yX5_readProduct ∈ TB := ⟨in_TB (List.mem_of_getElem? (i := 662) (by decide +kernel)) (by decide +kernel), in_TB (List.mem_of_getElem? (i := 14) (by decide +kernel)) (by decide +kernel)⟩
theorem mo_X5_readSum : MO mu_X5_readSum 0 := ⟨in_TB (List.mem_of_getElem? (i := 659) (by decide +kernel)) (by decide +kernel), in_TB (List.mem_of_getElem? (i := 113) (by decide +kernel)) (by decide +kernel), by decide, by decide, by decide, by decide +kernel⟩
theorem mi_X5_readSum : Cond.instanceMethod yX5_readSum ∈ TB ∧ Cond.selects yX5_readSum.cls yX5_readSum yX5_readSum ∈ TB := ⟨in_TB (List.mem_of_getElem? (i := 658) (by decide +kernel)) (by decide +kernel), in_TB (List.mem_of_getElem? (i := 13) (by decide +kernel)) (by decide +kernel)⟩
theorem mo_X5_readAsk : MO mu_X5_readAsk 0 := ⟨in_TB (List.mem_of_getElem? (i := 647) (by decide +kernel)) (by decide +kernel), in_TB (List.mem_of_getElem? (i := 113) (by decide +kernel)) (by decide +kernel), by decide, by decide, by decide, by decide +kernel⟩
theorem mi_X5_readAsk : Cond.instanceMethod yX5_readAsk ∈ TB ∧ Cond.selects yX5_readAsk.cls yX5_readAsk yX5_readAsk ∈ TB := ⟨in_TB (List.mem_of_getElem? (i := 646) (by decide +kernel)) (by decide +kernel), in_TB (List.mem_of_getElem? (i := 10) (by decide +kernel)) (by decide +kernel)⟩
theorem mo_X5_readClause : MO mu_X5_readClause 0 := ⟨in_TB (List.mem_of_getElem? (i := 623) (by decide +kernel)) (by decide +kernel), in_TB (List.mem_of_getElem? (i := 113) (by decide +kernel)) (by decide +kernel), by decide, by decide, by decide, by decide +kernel⟩
theorem mi_X5_readClause : Cond.instanceMethod yX5_readClause ∈ TB ∧ Cond.selects yX5_readClause.cls yX5_readClause yX5_readClause ∈ TB := ⟨in_TB (List.mem_of_getElem? (i := 622) (by decide +kernel)) (by decide +kernel), in_TB (List.mem_of_getElem? (i := 5) (by decide +kernel)) (by decide +kernel)⟩
theorem mo_J7_copyOf_59c91 : MO mu_J7_copyOf_59c91 2 := ⟨in_TB (List.mem_of_getElem? (i := 704) (by decide +kernel)) (by decide +kernel), in_TB (List.mem_of_getElem? (i := 118) (by decide +kernel)) (by decide +kernel), by decide, by decide, by decide, by decide +kernel⟩
theorem ms_J7_copyOf_59c91 : Cond.static yJ7_copyOf_59c91 ∈ TB := in_TB (List.mem_of_getElem? (i := 703) (by decide +kernel)) (by decide +kernel)
theorem mo_X6_init : MO mu_X6_init 4 := ⟨in_TB (List.mem_of_getElem? (i := 718) (by decide +kernel)) (by decide +kernel), in_TB (List.mem_of_getElem? (i := 126) (by decide +kernel)) (by decide +kernel), by decide, by decide, by decide, by decide +kernel⟩
theorem mn_X6_init : Cond.instanceMethod yX6_init ∈ TB := in_TB (List.mem_of_getElem? (i := 717) (by decide +kernel)) (by decide +kernel)
theorem mo_X5_read : MO mu_X5_read 1 := ⟨in_TB (List.mem_of_getElem? (i := 506) (by decide +kernel)) (by decide +kernel), in_TB (List.mem_of_getElem? (i := 113) (by decide +kernel)) (by decide +kernel), by decide, by decide, by decide, by decide +kernel⟩
theorem mi_X5_read : Cond.instanceMethod yX5_read ∈ TB ∧ Cond.selects yX5_read.cls yX5_read yX5_read ∈ TB := ⟨in_TB (List.mem_of_getElem? (i := 504) (by decide +kernel)) (by decide +kernel), in_TB (List.mem_of_getElem? (i := 505) (by decide +kernel)) (by decide +kernel)⟩
theorem mo_X7_init : MO mu_X7_init 1 := ⟨in_TB (List.mem_of_getElem? (i := 879) (by decide +kernel)) (by decide +kernel), in_TB (List.mem_of_getElem? (i := 129) (by decide +kernel)) (by decide +kernel), by decide, by decide, by decide, by decide +kernel⟩
theorem mn_X7_init : Cond.instanceMethod yX7_init ∈ TB := in_TB (List.mem_of_getElem? (i := 878) (by decide +kernel)) (by decide +kernel)
theorem mo_X7_goTo : MO mu_X7_goTo 1 := ⟨in_TB (List.mem_of_getElem? (i := 911) (by decide +kernel)) (by decide +kernel), in_TB (List.mem_of_getElem? (i := 129) (by decide +kernel)) (by decide +kernel), by decide, by decide, by decide, by decide +kernel⟩
theorem mi_X7_goTo : Cond.instanceMethod yX7_goTo ∈ TB ∧ Cond.selects yX7_goTo.cls yX7_goTo yX7_goTo ∈ TB := ⟨in_TB (List.mem_of_getElem? (i := 909) (by decide +kernel)) (by decide +kernel), in_TB (List.mem_of_getElem? (i := 910) (by decide +kernel)) (by decide +kernel)⟩
theorem mo_X7_goApart : MO mu_X7_goApart 0 := ⟨in_TB (List.mem_of_getElem? (i := 962) (by decide +kernel)) (by decide +kernel), in_TB (List.mem_of_getElem? (i := 129) (by decide +kernel)) (by decide +kernel), by decide, by decide, by decide, by decide +kernel⟩
theorem mi_X7_goApart : Cond.instanceMethod yX7_goApart ∈ TB ∧ Cond.selects yX7_goApart.cls yX7_goApart yX7_goApart ∈ TB := ⟨in_TB (List.mem_of_getElem? (i := 960) (by decide +kernel)) (by decide +kernel), in_TB (List.mem_of_getElem? (i := 961) (by decide +kernel)) (by decide +kernel)⟩
theorem mo_X7_add : MO mu_X7_add 1 := ⟨in_TB (List.mem_of_getElem? (i := 916) (by decide +kernel)) (by decide +kernel), in_TB (List.mem_of_getElem? (i := 129) (by decide +kernel)) (by decide +kernel), by decide, by decide, by decide, by decide +kernel⟩
theorem mi_X7_add : Cond.instanceMethod yX7_add ∈ TB ∧ Cond.selects yX7_add.cls yX7_add yX7_add ∈ TB := ⟨in_TB (List.mem_of_getElem? (i := 914) (by decide +kernel)) (by decide +kernel), in_TB (List.mem_of_getElem? (i := 915) (by decide +kernel)) (by decide +kernel)⟩
theorem mo_X7_slotOf : MO mu_X7_slotOf 1 := ⟨in_TB (List.mem_of_getElem? (i := 927) (by decide +kernel)) (by decide +kernel), in_TB (List.mem_of_getElem? (i := 129) (by decide +kernel)) (by decide +kernel), by decide, by decide, by decide, by decide +kernel⟩
theorem mi_X7_slotOf : Cond.instanceMethod yX7_slotOf ∈ TB ∧ Cond.selects yX7_slotOf.cls yX7_slotOf yX7_slotOf ∈ TB := ⟨in_TB (List.mem_of_getElem? (i := 926) (by decide +kernel)) (by decide +kernel), in_TB (List.mem_of_getElem? (i := 29) (by decide +kernel)) (by decide +kernel)⟩
theorem mo_X7_keep : MO mu_X7_keep 4 := ⟨in_TB (List.mem_of_getElem? (i := 932) (by decide +kernel)) (by decide +kernel), in_TB (List.mem_of_getElem? (i := 129) (by decide +kernel)) (by decide +kernel), by decide, by decide, by decide, by decide +kernel⟩
theorem mi_X7_keep : Cond.instanceMethod yX7_keep ∈ TB ∧ Cond.selects yX7_keep.cls yX7_keep yX7_keep ∈ TB := ⟨in_TB (List.mem_of_getElem? (i := 931) (by decide +kernel)) (by decide +kernel), in_TB (List.mem_of_getElem? (i := 30) (by decide +kernel)) (by decide +kernel)⟩
theorem mo_X7_isThere : MO mu_X7_isThere 1 := ⟨in_TB (List.mem_of_getElem? (i := 936) (by decide +kernel)) (by decide +kernel), in_TB (List.mem_of_getElem? (i := 129) (by decide +kernel)) (by decide +kernel), by decide, by decide, by decide, by decide +kernel⟩
theorem mi_X7_isThere : Cond.instanceMethod yX7_isThere ∈ TB ∧ Cond.selects yX7_isThere.cls yX7_isThere yX7_isThere ∈ TB := ⟨in_TB (List.mem_of_getElem? (i := 935) (by decide +kernel)) (by decide +kernel), in_TB (List.mem_of_getElem? (i := 31) (by decide +kernel)) (by decide +kernel)⟩
theorem mo_X7_rowBehind : MO mu_X7_rowBehind 2 := ⟨in_TB (List.mem_of_getElem? (i := 940) (by decide +kernel)) (by decide +kernel), in_TB (List.mem_of_getElem? (i := 129) (by decide +kernel)) (by decide +kernel), by decide, by decide, by decide, by decide +kernel⟩
theorem mi_X7_rowBehind : Cond.instanceMethod yX7_rowBehind ∈ TB ∧ Cond.selects yX7_rowBehind.cls yX7_rowBehind yX7_rowBehind ∈ TB := ⟨in_TB (List.mem_of_getElem? (i := 939) (by decide +kernel)) (by decide +kernel), in_TB (List.mem_of_getElem? (i := 32) (by decide +kernel)) (by decide +kernel)⟩
theorem mo_X7_tapsToLatest : MO mu_X7_tapsToLatest 0 := ⟨in_TB (List.mem_of_getElem? (i := 947) (by decide +kernel)) (by decide +kernel), in_TB (List.mem_of_getElem? (i := 129) (by decide +kernel)) (by decide +kernel), by decide, by decide, by decide, by decide +kernel⟩
theorem mi_X7_tapsToLatest : Cond.instanceMethod yX7_tapsToLatest ∈ TB ∧ Cond.selects yX7_tapsToLatest.cls yX7_tapsToLatest yX7_tapsToLatest ∈ TB := ⟨in_TB (List.mem_of_getElem? (i := 946) (by decide +kernel)) (by decide +kernel), in_TB (List.mem_of_getElem? (i := 33) (by decide +kernel)) (by decide +kernel)⟩
theorem mo_X7_seek : MO mu_X7_seek 1 := ⟨in_TB (List.mem_of_getElem? (i := 921) (by decide +kernel)) (by decide +kernel), in_TB (List.mem_of_getElem? (i := 129) (by decide +kernel)) (by decide +kernel), by decide, by decide, by decide, by decide +kernel⟩
theorem mi_X7_seek : Cond.instanceMethod yX7_seek ∈ TB ∧ Cond.selects yX7_seek.cls yX7_seek yX7_seek ∈ TB := ⟨in_TB (List.mem_of_getElem? (i := 919) (by decide +kernel)) (by decide +kernel), in_TB (List.mem_of_getElem? (i := 920) (by decide +kernel)) (by decide +kernel)⟩
theorem mo_X7_tapAt : MO mu_X7_tapAt 2 := ⟨in_TB (List.mem_of_getElem? (i := 954) (by decide +kernel)) (by decide +kernel), in_TB (List.mem_of_getElem? (i := 129) (by decide +kernel)) (by decide +kernel), by decide, by decide, by decide, by decide +kernel⟩
theorem mi_X7_tapAt : Cond.instanceMethod yX7_tapAt ∈ TB ∧ Cond.selects yX7_tapAt.cls yX7_tapAt yX7_tapAt ∈ TB := ⟨in_TB (List.mem_of_getElem? (i := 952) (by decide +kernel)) (by decide +kernel), in_TB (List.mem_of_getElem? (i := 953) (by decide +kernel)) (by decide +kernel)⟩
theorem mo_X8_init : MO mu_X8_init 2 := ⟨in_TB (List.mem_of_getElem? (i := 231) (by decide +kernel)) (by decide +kernel), in_TB (List.mem_of_getElem? (i := 116) (by decide +kernel)) (by decide +kernel), by decide, by decide, by decide, by decide +kernel⟩
theorem mn_X8_init : Cond.instanceMethod yX8_init ∈ TB := in_TB (List.mem_of_getElem? (i := 230) (by decide +kernel)) (by decide +kernel)
theorem mo_X8_copyFrom : MO mu_X8_copyFrom 1 := ⟨in_TB (List.mem_of_getElem? (i := 1179) (by decide +kernel)) (by decide +kernel), in_TB (List.mem_of_getElem? (i := 116) (by decide +kernel)) (by decide +kernel), by decide, by decide, by decide, by decide +kernel⟩
theorem mi_X8_copyFrom : Cond.instanceMethod yX8_copyFrom ∈ TB ∧ Cond.selects yX8_copyFrom.cls yX8_copyFrom yX8_copyFrom ∈ TB := ⟨in_TB (List.mem_of_getElem? (i := 1177) (by decide +kernel)) (by decide +kernel), in_TB (List.mem_of_getElem? (i := 1178) (by decide +kernel)) (by decide +kernel)⟩
theorem mo_X8_isCell : MO mu_X8_isCell 1 := ⟨in_TB (List.mem_of_getElem? (i := 441) (by decide +kernel)) (by decide +kernel), in_TB (List.mem_of_getElem? (i := 116) (by decide +kernel)) (by decide +kernel), by decide, by decide, by decide, by decide +kernel⟩
theorem mi_X8_isCell : Cond.instanceMethod yX8_isCell ∈ TB ∧ Cond.selects yX8_isCell.cls yX8_isCell yX8_isCell ∈ TB := ⟨in_TB (List.mem_of_getElem? (i := 439) (by decide +kernel)) (by decide +kernel), in_TB (List.mem_of_getElem? (i := 440) (by decide +kernel)) (by decide +kernel)⟩
theorem mo_X8_isText : MO mu_X8_isText 1 := ⟨in_TB (List.mem_of_getElem? (i := 483) (by decide +kernel)) (by decide +kernel), in_TB (List.mem_of_getElem? (i := 116) (by decide +kernel)) (by decide +kernel), by decide, by decide, by decide, by decide +kernel⟩
theorem mi_X8_isText : Cond.instanceMethod yX8_isText ∈ TB ∧ Cond.selects yX8_isText.cls yX8_isText yX8_isText ∈ TB := ⟨in_TB (List.mem_of_getElem? (i := 481) (by decide +kernel)) (by decide +kernel), in_TB (List.mem_of_getElem? (i := 482) (by decide +kernel)) (by decide +kernel)⟩
theorem mo_X8_isPair : MO mu_X8_isPair 1 := ⟨in_TB (List.mem_of_getElem? (i := 828) (by decide +kernel)) (by decide +kernel), in_TB (List.mem_of_getElem? (i := 116) (by decide +kernel)) (by decide +kernel), by decide, by decide, by decide, by decide +kernel⟩
theorem mi_X8_isPair : Cond.instanceMethod yX8_isPair ∈ TB ∧ Cond.selects yX8_isPair.cls yX8_isPair yX8_isPair ∈ TB := ⟨in_TB (List.mem_of_getElem? (i := 826) (by decide +kernel)) (by decide +kernel), in_TB (List.mem_of_getElem? (i := 827) (by decide +kernel)) (by decide +kernel)⟩
theorem mo_X8_hasPairIn : MO mu_X8_hasPairIn 1 := ⟨in_TB (List.mem_of_getElem? (i := 445) (by decide +kernel)) (by decide +kernel), in_TB (List.mem_of_getElem? (i := 116) (by decide +kernel)) (by decide +kernel), by decide, by decide, by decide, by decide +kernel⟩
theorem mi_X8_hasPairIn : Cond.instanceMethod yX8_hasPairIn ∈ TB ∧ Cond.selects yX8_hasPairIn.cls yX8_hasPairIn yX8_hasPairIn ∈ TB := ⟨in_TB (List.mem_of_getElem? (i := 443) (by decide +kernel)) (by decide +kernel), in_TB (List.mem_of_getElem? (i := 444) (by decide +kernel)) (by decide +kernel)⟩
theorem mo_X8_addText : MO mu_X8_addText 1 := ⟨in_TB (List.mem_of_getElem? (i := 750) (by decide +kernel)) (by decide +kernel), in_TB (List.mem_of_getElem? (i := 116) (by decide +kernel)) (by decide +kernel), by decide, by decide, by decide, by decide +kernel⟩
theorem mi_X8_addText : Cond.instanceMethod yX8_addText ∈ TB ∧ Cond.selects yX8_addText.cls yX8_addText yX8_addText ∈ TB := ⟨in_TB (List.mem_of_getElem? (i := 748) (by decide +kernel)) (by decide +kernel), in_TB (List.mem_of_getElem? (i := 749) (by decide +kernel)) (by decide +kernel)⟩
theorem mo_X8_keepStep : MO mu_X8_keepStep 1 := ⟨in_TB (List.mem_of_getElem? (i := 832) (by decide +kernel)) (by decide +kernel), in_TB (List.mem_of_getElem? (i := 116) (by decide +kernel)) (by decide +kernel), by decide, by decide, by decide, by decide +kernel⟩
theorem mi_X8_keepStep : Cond.instanceMethod yX8_keepStep ∈ TB ∧ Cond.selects yX8_keepStep.cls yX8_keepStep yX8_keepStep ∈ TB := ⟨in_TB (List.mem_of_getElem? (i := 830) (by decide +kernel)) (by decide +kernel), in_TB (List.mem_of_getElem? (i := 831) (by decide +kernel)) (by decide +kernel)⟩
theorem mo_X8_forgetSteps : MO mu_X8_forgetSteps 0 := ⟨in_TB (List.mem_of_getElem? (i := 461) (by decide +kernel)) (by decide +kernel), in_TB (List.mem_of_getElem? (i := 116) (by decide +kernel)) (by decide +kernel), by decide, by decide, by decide, by decide +kernel⟩
theorem mi_X8_forgetSteps : Cond.instanceMethod yX8_forgetSteps ∈ TB ∧ Cond.selects yX8_forgetSteps.cls yX8_forgetSteps yX8_forgetSteps ∈ TB := ⟨in_TB (List.mem_of_getElem? (i := 459) (by decide +kernel)) (by decide +kernel), in_TB (List.mem_of_getElem? (i := 460) (by decide +kernel)) (by decide +kernel)⟩
theorem mo_X10_init : MO mu_X10_init 2 := ⟨in_TB (List.mem_of_getElem? (i := 341) (by decide +kernel)) (by decide +kernel), in_TB (List.mem_of_getElem? (i := 119) (by decide +kernel)) (by decide +kernel), by decide, by decide, by decide, by decide +kernel⟩
theorem mn_X10_init : Cond.instanceMethod yX10_init ∈ TB := in_TB (List.mem_of_getElem? (i := 340) (by decide +kernel)) (by decide +kernel)
theorem mo_X10_begin : MO mu_X10_begin 0 := ⟨in_TB (List.mem_of_getElem? (i := 1026) (by decide +kernel)) (by decide +kernel), in_TB (List.mem_of_getElem? (i := 119) (by decide +kernel)) (by decide +kernel), by decide, by decide, by decide, by decide +kernel⟩
theorem mi_X10_begin : Cond.instanceMethod yX10_begin ∈ TB ∧ Cond.selects yX10_begin.cls yX10_begin yX10_begin ∈ TB := ⟨in_TB (List.mem_of_getElem? (i := 1025) (by decide +kernel)) (by decide +kernel), in_TB (List.mem_of_getElem? (i := 37) (by decide +kernel)) (by decide +kernel)⟩
theorem mo_X10_liking : MO mu_X10_liking 4 := ⟨in_TB (List.mem_of_getElem? (i := 1035) (by decide +kernel)) (by decide +kernel), in_TB (List.mem_of_getElem? (i := 119) (by decide +kernel)) (by decide +kernel), by decide, by decide, by decide, by decide +kernel⟩
theorem mi_X10_liking : Cond.instanceMethod yX10_liking ∈ TB ∧ Cond.selects yX10_liking.cls yX10_liking yX10_liking ∈ TB := ⟨in_TB (List.mem_of_getElem? (i := 1034) (by decide +kernel)) (by decide +kernel), in_TB (List.mem_of_getElem? (i := 39) (by decide +kernel)) (by decide +kernel)⟩
theorem mo_X10_learn : MO mu_X10_learn 2 := ⟨in_TB (List.mem_of_getElem? (i := 1031) (by decide +kernel)) (by decide +kernel), in_TB (List.mem_of_getElem? (i := 119) (by decide +kernel)) (by decide +kernel), by decide, by decide, by decide, by decide +kernel⟩
theorem mi_X10_learn : Cond.instanceMethod yX10_learn ∈ TB ∧ Cond.selects yX10_learn.cls yX10_learn yX10_learn ∈ TB := ⟨in_TB (List.mem_of_getElem? (i := 1030) (by decide +kernel)) (by decide +kernel), in_TB (List.mem_of_getElem? (i := 38) (by decide +kernel)) (by decide +kernel)⟩
theorem mo_X10_likedMost : MO mu_X10_likedMost 1 := ⟨in_TB (List.mem_of_getElem? (i := 1046) (by decide +kernel)) (by decide +kernel), in_TB (List.mem_of_getElem? (i := 119) (by decide +kernel)) (by decide +kernel), by decide, by decide, by decide, by decide +kernel⟩
theorem mi_X10_likedMost : Cond.instanceMethod yX10_likedMost ∈ TB ∧ Cond.selects yX10_likedMost.cls yX10_likedMost yX10_likedMost ∈ TB := ⟨in_TB (List.mem_of_getElem? (i := 1045) (by decide +kernel)) (by decide +kernel), in_TB (List.mem_of_getElem? (i := 41) (by decide +kernel)) (by decide +kernel)⟩
theorem mo_X10_answer : MO mu_X10_answer 2 := ⟨in_TB (List.mem_of_getElem? (i := 1050) (by decide +kernel)) (by decide +kernel), in_TB (List.mem_of_getElem? (i := 119) (by decide +kernel)) (by decide +kernel), by decide, by decide, by decide, by decide +kernel⟩
theorem mi_X10_answer : Cond.instanceMethod yX10_answer ∈ TB ∧ Cond.selects yX10_answer.cls yX10_answer yX10_answer ∈ TB := ⟨in_TB (List.mem_of_getElem? (i := 1049) (by decide +kernel)) (by decide +kernel), in_TB (List.mem_of_getElem? (i := 42) (by decide +kernel)) (by decide +kernel)⟩
