/-! THE TABLES of the small machine (written by wip/whole/gen_tab.py) -/
abbrev mX9_init : tm_M := (9, yX9_init, cX9_init, 1, none, 0, 3, 62, 68, 2347, false, 2)
abbrev mX1_init : tm_M := (1, yX1_init, cX1_init, 1, none, 0, 1, 20, 2, 16, false, 2)
abbrev mX2_init : tm_M := (2, yX2_init, cX2_init, 1, none, 0, 1, 20, 3, 86, false, 2)
abbrev mX3_init : tm_M := (3, yX3_init, cX3_init, 1, none, 0, 2, 42, 14, 308, false, 2)
abbrev mX5_init : tm_M := (5, yX5_init, cX5_init, 3, none, 2, 1, 20, 1, 40, false, 2)
abbrev mX6_init : tm_M := (6, yX6_init, cX6_init, 2, none, 1, 2, 40, 4, 49, false, 2)
abbrev mX7_init : tm_M := (7, yX7_init, cX7_init, 1, none, 0, 1, 20, 1, 0, false, 2)
abbrev mX0_init : tm_M := (0, yX0_init, cX0_init, 2, none, 1, 2, 41, 11, 418, false, 2)
abbrev mX4_init : tm_M := (4, yX4_init, cX4_init, 2, none, 1, 1, 20, 10, 400, false, 2)
abbrev mX8_init : tm_M := (8, yX8_init, cX8_init, 2, none, 1, 2, 41, 12, 423, false, 2)
abbrev mX9_feed : tm_M := (9, yX9_feed, cX9_feed, 6, (some .int), 5, 2, 22, 0, 0, false, 1)
abbrev mX9_putNumber : tm_M := (9, yX9_putNumber, cX9_putNumber, 3, none, 1, 1, 0, 0, 0, false, 1)
abbrev mX9_book : tm_M := (9, yX9_book, cX9_book, 3, (some .int), 1, 10, 233, 0, 0, false, 1)
abbrev mX9_within : tm_M := (9, yX9_within, cX9_within, 3, (some .boolean), 3, 1, 0, 0, 0, false, 0)
abbrev mX9_refuse : tm_M := (9, yX9_refuse, cX9_refuse, 2, (some .int), 1, 1, 0, 0, 0, false, 1)
abbrev mX6_readInto : tm_M := (6, yX6_readInto, cX6_readInto, 6, (some .int), 3, 9, 208, 0, 0, false, 1)
abbrev mX3_clear : tm_M := (3, yX3_clear, cX3_clear, 1, none, 0, 2, 20, 0, 0, false, 1)
abbrev mX5_clear : tm_M := (5, yX5_clear, cX5_clear, 1, none, 0, 1, 0, 0, 0, false, 1)
abbrev mX7_begin : tm_M := (7, yX7_begin, cX7_begin, 3, none, 2, 3, 43, 0, 0, false, 1)
abbrev mX9_kept : tm_M := (9, yX9_kept, cX9_kept, 3, (some .int), 3, 1, 0, 0, 0, false, 0)
abbrev mX7_step : tm_M := (7, yX7_step, cX7_step, 2, none, 0, 2, 22, 0, 0, false, 1)
abbrev mX7_takeRun : tm_M := (7, yX7_takeRun, cX7_takeRun, 3, none, 2, 1, 0, 0, 0, false, 1)
abbrev mX6_readLine : tm_M := (6, yX6_readLine, cX6_readLine, 1, (some .boolean), 0, 8, 188, 0, 0, false, 1)
abbrev mX7_isWord : tm_M := (7, yX7_isWord, cX7_isWord, 4, (some .boolean), 1, 4, 101, 0, 0, false, 1)
abbrev mX6_hasRoom : tm_M := (6, yX6_hasRoom, cX6_hasRoom, 3, (some .boolean), 2, 2, 21, 0, 0, false, 1)
abbrev mX5_isFull : tm_M := (5, yX5_isFull, cX5_isFull, 1, (some .boolean), 0, 1, 0, 0, 0, false, 1)
abbrev mX6_fails : tm_M := (6, yX6_fails, cX6_fails, 2, (some .boolean), 1, 1, 0, 0, 0, false, 1)
abbrev mX6_readBar : tm_M := (6, yX6_readBar, cX6_readBar, 2, (some .boolean), 1, 6, 149, 0, 0, false, 1)
abbrev mX6_tells : tm_M := (6, yX6_tells, cX6_tells, 6, (some .boolean), 5, 5, 124, 0, 0, false, 1)
abbrev mX6_isWhole : tm_M := (6, yX6_isWhole, cX6_isWhole, 3, (some .boolean), 2, 2, 22, 0, 0, false, 1)
abbrev mX7_sort : tm_M := (7, yX7_sort, cX7_sort, 1, (some .int), 0, 1, 0, 0, 0, false, 1)
abbrev mX7_wholeNumber : tm_M := (7, yX7_wholeNumber, cX7_wholeNumber, 3, (some .int), 0, 1, 0, 0, 0, false, 1)
abbrev mX6_keeps : tm_M := (6, yX6_keeps, cX6_keeps, 3, (some .boolean), 2, 2, 22, 0, 0, false, 1)
abbrev mX5_put : tm_M := (5, yX5_put, cX5_put, 3, none, 2, 1, 0, 0, 0, false, 1)
abbrev mX6_ends : tm_M := (6, yX6_ends, cX6_ends, 2, (some .boolean), 1, 3, 43, 0, 0, false, 1)
abbrev mX5_close : tm_M := (5, yX5_close, cX5_close, 1, none, 0, 1, 0, 0, 0, false, 1)
abbrev mX6_readWater : tm_M := (6, yX6_readWater, cX6_readWater, 2, (some .boolean), 1, 6, 149, 0, 0, false, 1)
abbrev mX6_tellsWhole : tm_M := (6, yX6_tellsWhole, cX6_tellsWhole, 5, (some .boolean), 4, 3, 44, 0, 0, false, 1)
abbrev mX6_readKind : tm_M := (6, yX6_readKind, cX6_readKind, 2, (some .boolean), 1, 7, 165, 0, 0, false, 1)
abbrev mX5_count : tm_M := (5, yX5_count, cX5_count, 1, (some .int), 0, 1, 0, 0, 0, false, 1)
abbrev mX6_takesNewName : tm_M := (6, yX6_takesNewName, cX6_takesNewName, 2, (some .boolean), 1, 6, 144, 0, 0, false, 1)
abbrev mX6_isName : tm_M := (6, yX6_isName, cX6_isName, 1, (some .boolean), 0, 5, 124, 0, 0, false, 1)
abbrev mX6_nameAtHand : tm_M := (6, yX6_nameAtHand, cX6_nameAtHand, 4, (some .int), 0, 2, 23, 0, 0, true, 1)
abbrev mX7_wordNumber : tm_M := (7, yX7_wordNumber, cX7_wordNumber, 4, (some .long), 0, 1, 0, 0, 0, true, 1)
abbrev mX6_readTurn : tm_M := (6, yX6_readTurn, cX6_readTurn, 2, (some .boolean), 1, 7, 167, 0, 0, false, 1)
abbrev mX6_takesKindTurnedTo : tm_M := (6, yX6_takesKindTurnedTo, cX6_takesKindTurnedTo, 4, (some .boolean), 1, 6, 144, 0, 0, false, 1)
abbrev mX6_readRed : tm_M := (6, yX6_readRed, cX6_readRed, 2, (some .boolean), 1, 7, 165, 0, 0, false, 1)
abbrev mX6_readStone : tm_M := (6, yX6_readStone, cX6_readStone, 2, (some .boolean), 1, 7, 165, 0, 0, false, 1)
abbrev mX6_takesWord : tm_M := (6, yX6_takesWord, cX6_takesWord, 2, (some .boolean), 1, 5, 124, 0, 0, false, 1)
abbrev mX6_readSigns : tm_M := (6, yX6_readSigns, cX6_readSigns, 4, (some .boolean), 1, 3, 44, 0, 0, false, 1)
abbrev mX6_readSmith : tm_M := (6, yX6_readSmith, cX6_readSmith, 3, (some .boolean), 1, 7, 165, 0, 0, false, 1)
abbrev mX6_parts : tm_M := (6, yX6_parts, cX6_parts, 1, (some .boolean), 0, 3, 43, 0, 0, false, 1)
abbrev mX6_lacks : tm_M := (6, yX6_lacks, cX6_lacks, 1, (some .boolean), 0, 2, 20, 0, 0, false, 1)
abbrev mX3_markTurns : tm_M := (3, yX3_markTurns, cX3_markTurns, 2, none, 0, 2, 22, 0, 0, false, 1)
abbrev mX5_at : tm_M := (5, yX5_at, cX5_at, 3, (some .int), 2, 1, 0, 0, 0, false, 1)
abbrev mX0_fit : tm_M := (0, yX0_fit, cX0_fit, 2, none, 1, 5, 92, 0, 0, false, 1)
abbrev mX4_fit : tm_M := (4, yX4_fit, cX4_fit, 5, none, 2, 4, 68, 0, 0, false, 1)
abbrev mJ7_fill_53178 : tm_M := (22, yJ7_fill_53178, cJ7_fill_53178, 4, none, 2, 1, 0, 0, 0, false, 0)
abbrev mX4_heatTo : tm_M := (4, yX4_heatTo, cX4_heatTo, 3, none, 1, 3, 46, 0, 0, false, 1)
abbrev mX4_wholePull : tm_M := (4, yX4_wholePull, cX4_wholePull, 1, (some .int), 0, 1, 0, 0, 0, false, 1)
abbrev mX4_sizeCut : tm_M := (4, yX4_sizeCut, cX4_sizeCut, 5, none, 1, 2, 22, 0, 0, false, 1)
abbrev mX0_heatTo : tm_M := (0, yX0_heatTo, cX0_heatTo, 2, none, 1, 4, 68, 0, 0, false, 1)
abbrev mX8_fit : tm_M := (8, yX8_fit, cX8_fit, 2, none, 1, 5, 92, 0, 0, false, 1)
abbrev mX1_clear : tm_M := (1, yX1_clear, cX1_clear, 1, none, 0, 2, 23, 0, 0, false, 1)
abbrev mX2_clear : tm_M := (2, yX2_clear, cX2_clear, 1, none, 0, 1, 0, 0, 0, false, 1)
abbrev mX9_answer : tm_M := (9, yX9_answer, cX9_answer, 2, (some .int), 1, 1, 0, 0, 0, false, 1)
abbrev mX9_fault : tm_M := (9, yX9_fault, cX9_fault, 1, (some .int), 0, 1, 0, 0, 0, false, 1)
abbrev mX9_where : tm_M := (9, yX9_where, cX9_where, 1, (some .int), 0, 3, 40, 0, 0, false, 1)
abbrev mX6_place : tm_M := (6, yX6_place, cX6_place, 1, (some .int), 0, 2, 20, 0, 0, false, 1)
abbrev mX7_place : tm_M := (7, yX7_place, cX7_place, 1, (some .int), 0, 1, 0, 0, 0, false, 1)
abbrev mX9_heat : tm_M := (9, yX9_heat, cX9_heat, 2, (some .boolean), 1, 5, 89, 0, 0, false, 1)
abbrev mX9_refuses : tm_M := (9, yX9_refuses, cX9_refuses, 2, (some .boolean), 1, 1, 0, 0, 0, false, 1)
abbrev mX9_isHeat : tm_M := (9, yX9_isHeat, cX9_isHeat, 1, (some .boolean), 1, 2, 22, 0, 0, false, 0)
abbrev mX9_agrees : tm_M := (9, yX9_agrees, cX9_agrees, 1, (some .boolean), 0, 1, 0, 0, 0, false, 1)
abbrev mX9_clay : tm_M := (9, yX9_clay, cX9_clay, 4, (some .boolean), 3, 3, 45, 0, 0, false, 1)
abbrev mX4_has : tm_M := (4, yX4_has, cX4_has, 3, (some .boolean), 2, 1, 0, 0, 0, false, 1)
abbrev mX4_tenth : tm_M := (4, yX4_tenth, cX4_tenth, 1, (some .int), 0, 1, 0, 0, 0, false, 1)
abbrev mX4_setClay : tm_M := (4, yX4_setClay, cX4_setClay, 4, none, 3, 2, 22, 0, 0, false, 1)
abbrev mX9_go : tm_M := (9, yX9_go, cX9_go, 2, (some .int), 1, 5, 104, 0, 0, false, 1)
abbrev mX4_isCracked : tm_M := (4, yX4_isCracked, cX4_isCracked, 1, (some .boolean), 0, 1, 0, 0, 0, false, 1)
abbrev mX0_coolFor : tm_M := (0, yX0_coolFor, cX0_coolFor, 4, (some .int), 1, 4, 81, 0, 0, false, 1)
abbrev mX4_coolOnce : tm_M := (4, yX4_coolOnce, cX4_coolOnce, 7, (some .boolean), 0, 3, 55, 0, 0, false, 1)
abbrev mX4_coolCut : tm_M := (4, yX4_coolCut, cX4_coolCut, 10, (some .boolean), 1, 2, 26, 0, 0, false, 1)
abbrev mX4_gained : tm_M := (4, yX4_gained, cX4_gained, 7, (some .int), 3, 1, 0, 0, 0, false, 1)
abbrev mX3_kindOfFall : tm_M := (3, yX3_kindOfFall, cX3_kindOfFall, 5, (some .int), 2, 2, 22, 0, 0, false, 1)
abbrev mX4_turnCell : tm_M := (4, yX4_turnCell, cX4_turnCell, 3, none, 2, 2, 22, 0, 0, false, 1)
abbrev mX4_strainCut : tm_M := (4, yX4_strainCut, cX4_strainCut, 6, none, 1, 2, 25, 0, 0, false, 1)
abbrev mX4_totalOf : tm_M := (4, yX4_totalOf, cX4_totalOf, 4, (some .int), 1, 1, 0, 0, 0, false, 1)
abbrev mX4_curveOf : tm_M := (4, yX4_curveOf, cX4_curveOf, 5, (some .int), 1, 1, 0, 0, 0, false, 1)
abbrev mX4_pullBy : tm_M := (4, yX4_pullBy, cX4_pullBy, 6, (some .int), 4, 1, 0, 0, 0, false, 1)
abbrev mX4_bendNow : tm_M := (4, yX4_bendNow, cX4_bendNow, 3, (some .int), 0, 2, 24, 0, 0, false, 1)
abbrev mX9_again : tm_M := (9, yX9_again, cX9_again, 2, (some .boolean), 1, 6, 125, 0, 0, false, 1)
abbrev mX0_goBackTo : tm_M := (0, yX0_goBackTo, cX0_goBackTo, 2, none, 1, 5, 104, 0, 0, false, 1)
abbrev mX9_cell : tm_M := (9, yX9_cell, cX9_cell, 4, (some .int), 3, 3, 44, 0, 0, false, 1)
abbrev mX4_heatOf : tm_M := (4, yX4_heatOf, cX4_heatOf, 3, (some .int), 2, 2, 22, 0, 0, false, 1)
abbrev mX4_kindOf : tm_M := (4, yX4_kindOf, cX4_kindOf, 3, (some .int), 2, 2, 22, 0, 0, false, 1)
abbrev mX4_clayOf : tm_M := (4, yX4_clayOf, cX4_clayOf, 3, (some .int), 2, 2, 22, 0, 0, false, 1)
abbrev mX4_sizeOf : tm_M := (4, yX4_sizeOf, cX4_sizeOf, 3, (some .int), 2, 2, 22, 0, 0, false, 1)
abbrev mX4_turnOf : tm_M := (4, yX4_turnOf, cX4_turnOf, 3, (some .int), 2, 2, 22, 0, 0, false, 1)
abbrev mX9_pull : tm_M := (9, yX9_pull, cX9_pull, 3, (some .long), 2, 3, 47, 0, 0, false, 1)
abbrev mX4_pullOf : tm_M := (4, yX4_pullOf, cX4_pullOf, 3, (some .int), 2, 2, 25, 0, 0, false, 1)
abbrev mX9_curve : tm_M := (9, yX9_curve, cX9_curve, 2, (some .int), 1, 2, 24, 0, 0, false, 1)
abbrev mX9_bend : tm_M := (9, yX9_bend, cX9_bend, 2, (some .int), 1, 3, 46, 0, 0, false, 1)
abbrev mX0_leastBend : tm_M := (0, yX0_leastBend, cX0_leastBend, 1, (some .int), 0, 1, 0, 0, 0, false, 1)
abbrev mX0_greatestBend : tm_M := (0, yX0_greatestBend, cX0_greatestBend, 1, (some .int), 0, 1, 0, 0, 0, false, 1)
abbrev mX9_crack : tm_M := (9, yX9_crack, cX9_crack, 2, (some .int), 1, 2, 22, 0, 0, false, 1)
abbrev mX4_crackAlong : tm_M := (4, yX4_crackAlong, cX4_crackAlong, 1, (some .int), 0, 1, 0, 0, 0, false, 1)
abbrev mX4_crackAcross : tm_M := (4, yX4_crackAcross, cX4_crackAcross, 1, (some .int), 0, 1, 0, 0, 0, false, 1)
abbrev mX9_cold : tm_M := (9, yX9_cold, cX9_cold, 1, (some .int), 0, 2, 22, 0, 0, false, 1)
abbrev mX4_isCold : tm_M := (4, yX4_isCold, cX4_isCold, 3, (some .boolean), 0, 1, 0, 0, 0, false, 1)
abbrev mX9_cloud : tm_M := (9, yX9_cloud, cX9_cloud, 3, (some .int), 2, 5, 90, 0, 0, false, 1)
abbrev mX9_isHardness : tm_M := (9, yX9_isHardness, cX9_isHardness, 1, (some .boolean), 1, 2, 22, 0, 0, false, 0)
abbrev mX4_cloudOf : tm_M := (4, yX4_cloudOf, cX4_cloudOf, 4, (some .int), 2, 4, 67, 0, 0, false, 1)
abbrev mX4_isHard : tm_M := (4, yX4_isHard, cX4_isHard, 4, (some .boolean), 3, 3, 44, 0, 0, false, 1)
abbrev mX9_chip : tm_M := (9, yX9_chip, cX9_chip, 3, (some .int), 2, 5, 91, 0, 0, false, 1)
abbrev mX4_chipFrom : tm_M := (4, yX4_chipFrom, cX4_chipFrom, 5, (some .int), 2, 4, 67, 0, 0, false, 1)
abbrev mX9_aim : tm_M := (9, yX9_aim, cX9_aim, 5, (some .int), 3, 7, 159, 0, 0, false, 1)
abbrev mX9_isWidth : tm_M := (9, yX9_isWidth, cX9_isWidth, 2, (some .boolean), 1, 2, 22, 0, 0, false, 1)
abbrev mX4_width : tm_M := (4, yX4_width, cX4_width, 1, (some .int), 0, 1, 0, 0, 0, false, 1)
abbrev mX8_leastClay : tm_M := (8, yX8_leastClay, cX8_leastClay, 8, (some .int), 3, 6, 132, 0, 0, false, 1)
abbrev mX8_totalOfWay : tm_M := (8, yX8_totalOfWay, cX8_totalOfWay, 4, (some .int), 1, 3, 42, 0, 0, false, 1)
abbrev mX8_clayOfWay : tm_M := (8, yX8_clayOfWay, cX8_clayOfWay, 3, (some .int), 2, 2, 20, 0, 0, false, 1)
abbrev mX8_isAimed : tm_M := (8, yX8_isAimed, cX8_isAimed, 8, (some .boolean), 4, 5, 105, 0, 0, false, 1)
abbrev mX8_usefulClay : tm_M := (8, yX8_usefulClay, cX8_usefulClay, 3, (some .int), 0, 2, 22, 0, 0, false, 1)
abbrev mX8_toldWater : tm_M := (8, yX8_toldWater, cX8_toldWater, 1, (some .int), 0, 2, 22, 0, 0, false, 1)
abbrev mX8_cracksAt : tm_M := (8, yX8_cracksAt, cX8_cracksAt, 5, (some .boolean), 2, 4, 81, 0, 0, false, 1)
abbrev mX4_pourWater : tm_M := (4, yX4_pourWater, cX4_pourWater, 2, none, 1, 1, 0, 0, 0, false, 1)
abbrev mX4_isHardBehind : tm_M := (4, yX4_isHardBehind, cX4_isHardBehind, 5, (some .boolean), 3, 4, 67, 0, 0, false, 1)
abbrev mX8_tensOfWay : tm_M := (8, yX8_tensOfWay, cX8_tensOfWay, 4, (some .int), 1, 3, 42, 0, 0, false, 1)
abbrev mX9_scatter : tm_M := (9, yX9_scatter, cX9_scatter, 4, (some .int), 3, 6, 136, 0, 0, false, 1)
abbrev mX9_isScatter : tm_M := (9, yX9_isScatter, cX9_isScatter, 3, (some .boolean), 3, 3, 42, 0, 0, false, 0)
abbrev mX9_trialsOfBar : tm_M := (9, yX9_trialsOfBar, cX9_trialsOfBar, 2, (some (.object "TwoMinds$Trials")), 0, 3, 44, 0, 0, false, 1)
abbrev mX8_setClay : tm_M := (8, yX8_setClay, cX8_setClay, 3, none, 2, 1, 0, 0, 0, false, 1)
abbrev mX8_cracksOfNine : tm_M := (8, yX8_cracksOfNine, cX8_cracksOfNine, 12, (some .int), 4, 5, 105, 0, 0, false, 1)
abbrev mX8_clayWith : tm_M := (8, yX8_clayWith, cX8_clayWith, 4, none, 1, 3, 45, 0, 0, false, 1)
abbrev mX8_heatWith : tm_M := (8, yX8_heatWith, cX8_heatWith, 2, (some .int), 2, 2, 22, 0, 0, false, 0)
abbrev mX8_waterWith : tm_M := (8, yX8_waterWith, cX8_waterWith, 3, (some .int), 1, 3, 42, 0, 0, false, 1)
abbrev mX9_lowers : tm_M := (9, yX9_lowers, cX9_lowers, 4, (some .int), 3, 7, 163, 0, 0, false, 1)
abbrev mX8_bestChange : tm_M := (8, yX8_bestChange, cX8_bestChange, 8, (some .int), 3, 6, 136, 0, 0, false, 1)
abbrev mX9_why : tm_M := (9, yX9_why, cX9_why, 3, (some .int), 1, 7, 150, 0, 0, false, 1)
abbrev mX8_cracksWith : tm_M := (8, yX8_cracksWith, cX8_cracksWith, 3, (some .boolean), 2, 5, 105, 0, 0, false, 1)
abbrev mX8_savingChanges : tm_M := (8, yX8_savingChanges, cX8_savingChanges, 4, (some .int), 1, 6, 127, 0, 0, false, 1)
abbrev mX9_lay : tm_M := (9, yX9_lay, cX9_lay, 3, (some .boolean), 2, 3, 43, 0, 0, false, 1)
abbrev mX1_has : tm_M := (1, yX1_has, cX1_has, 2, (some .boolean), 1, 1, 0, 0, 0, false, 1)
abbrev mX1_put : tm_M := (1, yX1_put, cX1_put, 3, none, 2, 2, 21, 0, 0, false, 1)
abbrev mX9_fold : tm_M := (9, yX9_fold, cX9_fold, 2, (some .int), 1, 3, 44, 0, 0, false, 1)
abbrev mX1_foldTimes : tm_M := (1, yX1_foldTimes, cX1_foldTimes, 3, (some .int), 1, 2, 22, 0, 0, false, 1)
abbrev mX1_foldOver : tm_M := (1, yX1_foldOver, cX1_foldOver, 3, none, 1, 1, 0, 0, 0, false, 0)
abbrev mX9_layer : tm_M := (9, yX9_layer, cX9_layer, 2, (some .int), 1, 3, 42, 0, 0, false, 1)
abbrev mX1_at : tm_M := (1, yX1_at, cX1_at, 2, (some .int), 1, 2, 21, 0, 0, false, 1)
abbrev mX9_even : tm_M := (9, yX9_even, cX9_even, 3, (some .int), 1, 3, 122, 0, 0, false, 1)
abbrev mX1_foldsTillEven : tm_M := (1, yX1_foldsTillEven, cX1_foldsTillEven, 3, (some .int), 1, 2, 100, 0, 0, false, 1)
abbrev mX1_spread : tm_M := (1, yX1_spread, cX1_spread, 4, (some .int), 1, 1, 21, 0, 0, false, 0)
abbrev mX9_colour : tm_M := (9, yX9_colour, cX9_colour, 3, (some .int), 2, 3, 46, 0, 0, false, 1)
abbrev mX3_redOf : tm_M := (3, yX3_redOf, cX3_redOf, 5, (some .int), 2, 2, 22, 0, 0, false, 1)
abbrev mX9_eye : tm_M := (9, yX9_eye, cX9_eye, 6, (some .int), 5, 6, 132, 0, 0, false, 1)
abbrev mX8_lookingSo : tm_M := (8, yX8_lookingSo, cX8_lookingSo, 5, (some .int), 2, 3, 46, 0, 0, false, 1)
abbrev mX8_crackingByEye : tm_M := (8, yX8_crackingByEye, cX8_crackingByEye, 6, (some .int), 2, 5, 105, 0, 0, false, 1)
abbrev mX8_cloudedByEye : tm_M := (8, yX8_cloudedByEye, cX8_cloudedByEye, 8, (some .int), 4, 5, 105, 0, 0, false, 1)
abbrev mX9_polish : tm_M := (9, yX9_polish, cX9_polish, 2, (some .int), 1, 5, 94, 0, 0, false, 1)
abbrev mX9_shown : tm_M := (9, yX9_shown, cX9_shown, 4, (some .int), 2, 4, 71, 0, 0, false, 1)
abbrev mX9_isSigns : tm_M := (9, yX9_isSigns, cX9_isSigns, 1, (some .boolean), 1, 2, 22, 0, 0, false, 0)
abbrev mX3_stonesThatShow : tm_M := (3, yX3_stonesThatShow, cX3_stonesThatShow, 7, (some .int), 1, 3, 45, 0, 0, false, 1)
abbrev mX3_daysOf : tm_M := (3, yX3_daysOf, cX3_daysOf, 4, (some .int), 1, 2, 22, 0, 0, false, 1)
abbrev mX3_signsOf : tm_M := (3, yX3_signsOf, cX3_signsOf, 4, (some .int), 1, 2, 22, 0, 0, false, 1)
abbrev mX9_stones : tm_M := (9, yX9_stones, cX9_stones, 2, (some .int), 1, 5, 94, 0, 0, false, 1)
abbrev mX9_whose : tm_M := (9, yX9_whose, cX9_whose, 2, (some .int), 1, 4, 74, 0, 0, false, 1)
abbrev mX3_likeliestSmith : tm_M := (3, yX3_likeliestSmith, cX3_likeliestSmith, 8, (some .int), 1, 3, 47, 0, 0, true, 1)
abbrev mX3_productOf : tm_M := (3, yX3_productOf, cX3_productOf, 6, (some .long), 2, 2, 22, 0, 0, true, 1)
abbrev mX9_odds : tm_M := (9, yX9_odds, cX9_odds, 3, (some .long), 2, 4, 71, 0, 0, false, 1)
abbrev mX3_productOfAll : tm_M := (3, yX3_productOfAll, cX3_productOfAll, 5, (some .long), 1, 3, 47, 0, 0, true, 1)
abbrev mX9_learn : tm_M := (9, yX9_learn, cX9_learn, 5, (some .int), 4, 3, 44, 0, 0, false, 1)
abbrev mX2_isFull : tm_M := (2, yX2_isFull, cX2_isFull, 1, (some .boolean), 0, 1, 0, 0, 0, false, 1)
abbrev mX2_add : tm_M := (2, yX2_add, cX2_add, 5, (some .int), 4, 2, 20, 0, 0, false, 1)
abbrev mX9_next : tm_M := (9, yX9_next, cX9_next, 1, (some .int), 0, 4, 71, 0, 0, false, 1)
abbrev mX2_bestWay : tm_M := (2, yX2_bestWay, cX2_bestWay, 4, (some .int), 0, 3, 48, 0, 0, false, 1)
abbrev mX2_countGains : tm_M := (2, yX2_countGains, cX2_countGains, 4, none, 0, 2, 25, 0, 0, false, 1)
abbrev mX2_wayBetween : tm_M := (2, yX2_wayBetween, cX2_wayBetween, 6, (some .int), 2, 1, 0, 0, 0, false, 1)
abbrev mJ6_compare_7cf53 : tm_M := (21, yJ6_compare_7cf53, cJ6_compare_7cf53, 2, (some .int), 2, 1, 0, 0, 0, false, 0)
abbrev mX9_size : tm_M := (9, yX9_size, cX9_size, 2, (some .int), 1, 3, 41, 0, 0, false, 1)
abbrev mX4_cuts : tm_M := (4, yX4_cuts, cX4_cuts, 1, (some .int), 0, 1, 0, 0, 0, false, 1)
abbrev mX4_turned : tm_M := (4, yX4_turned, cX4_turned, 1, (some .int), 0, 1, 0, 0, 0, false, 1)
abbrev mX2_count : tm_M := (2, yX2_count, cX2_count, 1, (some .int), 0, 1, 0, 0, 0, false, 1)
abbrev mX9_linesTold : tm_M := (9, yX9_linesTold, cX9_linesTold, 2, (some .int), 1, 2, 20, 0, 0, false, 1)
abbrev mX9_trouble : tm_M := (9, yX9_trouble, cX9_trouble, 1, (some .int), 0, 1, 0, 0, 0, false, 1)
abbrev mX9_led : tm_M := (9, yX9_led, cX9_led, 2, (some .int), 1, 2, 22, 0, 0, false, 1)
abbrev mX4_turnedCell : tm_M := (4, yX4_turnedCell, cX4_turnedCell, 3, (some .int), 1, 1, 0, 0, 0, false, 1)
abbrev mX11_init : tm_M := (11, yX11_init, cX11_init, 1, none, 0, 1, 20, 13, 1053, false, 2)
abbrev mX11_thrown : tm_M := (11, yX11_thrown, cX11_thrown, 1, (some .int), 0, 1, 0, 0, 0, false, 1)
abbrev mX11_feed : tm_M := (11, yX11_feed, cX11_feed, 8, (some .int), 5, 1, 0, 0, 0, false, 1)
abbrev mX11_book : tm_M := (11, yX11_book, cX11_book, 3, (some .int), 1, 11, 253, 14, 167, false, 1)
abbrev mX11_refused : tm_M := (11, yX11_refused, cX11_refused, 2, (some .int), 1, 1, 0, 0, 0, false, 1)
abbrev mX10_init : tm_M := (10, yX10_init, cX10_init, 1, none, 0, 1, 20, 13, 141, false, 2)
abbrev mX11_goesOn : tm_M := (11, yX11_goesOn, cX11_goesOn, 3, none, 0, 2, 21, 0, 0, false, 1)
abbrev mX11_byteAt : tm_M := (11, yX11_byteAt, cX11_byteAt, 2, (some .int), 1, 1, 0, 0, 0, false, 1)
abbrev mX11_isLetter : tm_M := (11, yX11_isLetter, cX11_isLetter, 1, (some .boolean), 1, 1, 0, 0, 0, false, 0)
abbrev mX11_isDigit : tm_M := (11, yX11_isDigit, cX11_isDigit, 1, (some .boolean), 1, 1, 0, 0, 0, false, 0)
abbrev mX11_readBook : tm_M := (11, yX11_readBook, cX11_readBook, 2, none, 0, 10, 232, 0, 0, false, 1)
abbrev mX11_readLine : tm_M := (11, yX11_readLine, cX11_readLine, 1, none, 0, 9, 212, 0, 0, false, 1)
abbrev mX11_isWord : tm_M := (11, yX11_isWord, cX11_isWord, 2, (some .boolean), 1, 5, 124, 0, 0, false, 1)
abbrev mX11_wordOf : tm_M := (11, yX11_wordOf, cX11_wordOf, 4, (some .long), 1, 4, 101, 0, 0, true, 0)
abbrev mX11_readBar : tm_M := (11, yX11_readBar, cX11_readBar, 3, none, 0, 7, 168, 0, 0, false, 1)
abbrev mX11_wrong : tm_M := (11, yX11_wrong, cX11_wrong, 2, none, 1, 2, 22, 0, 0, false, 1)
abbrev mX11_wrongHere : tm_M := (11, yX11_wrongHere, cX11_wrongHere, 3, none, 2, 1, 0, 0, 0, false, 1)
abbrev mX11_readPart : tm_M := (11, yX11_readPart, cX11_readPart, 4, (some .int), 3, 6, 145, 0, 0, false, 1)
abbrev mX11_readWhole : tm_M := (11, yX11_readWhole, cX11_readWhole, 4, (some .int), 2, 3, 43, 0, 0, false, 1)
abbrev mX11_in : tm_M := (11, yX11_in, cX11_in, 3, (some .boolean), 3, 1, 0, 0, 0, false, 0)
abbrev mX11_readWater : tm_M := (11, yX11_readWater, cX11_readWater, 1, none, 0, 7, 168, 0, 0, false, 1)
abbrev mX11_readKind : tm_M := (11, yX11_readKind, cX11_readKind, 4, none, 0, 8, 187, 0, 0, false, 1)
abbrev mX11_readNamed : tm_M := (11, yX11_readNamed, cX11_readNamed, 3, none, 2, 7, 165, 0, 0, false, 1)
abbrev mX11_isName : tm_M := (11, yX11_isName, cX11_isName, 1, (some .boolean), 0, 6, 145, 0, 0, false, 1)
abbrev mX10_find : tm_M := (10, yX10_find, cX10_find, 4, (some .int), 1, 1, 0, 0, 0, true, 1)
abbrev mX11_readTurn : tm_M := (11, yX11_readTurn, cX11_readTurn, 4, none, 0, 7, 168, 0, 0, false, 1)
abbrev mX11_readRed : tm_M := (11, yX11_readRed, cX11_readRed, 3, none, 0, 8, 187, 0, 0, false, 1)
abbrev mX11_readStone : tm_M := (11, yX11_readStone, cX11_readStone, 6, none, 0, 8, 187, 0, 0, false, 1)
abbrev mX11_eatsComma : tm_M := (11, yX11_eatsComma, cX11_eatsComma, 2, (some .boolean), 0, 3, 43, 0, 0, false, 1)
abbrev mX11_is : tm_M := (11, yX11_is, cX11_is, 2, (some .boolean), 1, 1, 0, 0, 0, false, 1)
abbrev mX11_readSmith : tm_M := (11, yX11_readSmith, cX11_readSmith, 5, none, 0, 8, 187, 0, 0, false, 1)
abbrev mX11_begins : tm_M := (11, yX11_begins, cX11_begins, 3, none, 1, 1, 0, 0, 0, false, 1)
abbrev mX11_done : tm_M := (11, yX11_done, cX11_done, 2, (some .int), 1, 1, 0, 0, 0, false, 1)
abbrev mX11_fault : tm_M := (11, yX11_fault, cX11_fault, 1, (some .int), 0, 1, 0, 0, 0, false, 1)
abbrev mX11_where : tm_M := (11, yX11_where, cX11_where, 1, (some .int), 0, 1, 0, 0, 0, false, 1)
abbrev mX11_heat : tm_M := (11, yX11_heat, cX11_heat, 2, (some .boolean), 1, 2, 22, 0, 0, false, 1)
abbrev mX11_denied : tm_M := (11, yX11_denied, cX11_denied, 2, (some .boolean), 1, 1, 0, 0, 0, false, 1)
abbrev mX11_granted : tm_M := (11, yX11_granted, cX11_granted, 1, (some .boolean), 0, 1, 0, 0, 0, false, 1)
abbrev mX11_clay : tm_M := (11, yX11_clay, cX11_clay, 4, (some .boolean), 3, 2, 22, 0, 0, false, 1)
abbrev mX11_isCell : tm_M := (11, yX11_isCell, cX11_isCell, 3, (some .boolean), 2, 1, 0, 0, 0, false, 1)
abbrev mX11_go : tm_M := (11, yX11_go, cX11_go, 3, (some .int), 1, 7, 136, 0, 0, false, 1)
abbrev mX11_passes : tm_M := (11, yX11_passes, cX11_passes, 2, none, 0, 6, 115, 0, 0, false, 1)
abbrev mX11_cools : tm_M := (11, yX11_cools, cX11_cools, 11, none, 6, 3, 51, 0, 0, false, 1)
abbrev mX11_cooled : tm_M := (11, yX11_cooled, cX11_cooled, 10, (some .int), 6, 2, 22, 0, 0, false, 1)
abbrev mX11_flows : tm_M := (11, yX11_flows, cX11_flows, 3, (some .int), 2, 1, 0, 0, 0, false, 1)
abbrev mX11_turnsTo : tm_M := (11, yX11_turnsTo, cX11_turnsTo, 4, (some .int), 2, 1, 0, 0, 0, false, 1)
abbrev mX11_bendOf : tm_M := (11, yX11_bendOf, cX11_bendOf, 3, (some .int), 0, 3, 48, 0, 0, false, 1)
abbrev mX11_curveOf : tm_M := (11, yX11_curveOf, cX11_curveOf, 6, (some .int), 3, 2, 23, 0, 0, false, 1)
abbrev mX11_sizeOf : tm_M := (11, yX11_sizeOf, cX11_sizeOf, 4, (some .int), 3, 1, 0, 0, 0, false, 1)
abbrev mX10_spread : tm_M := (10, yX10_spread, cX10_spread, 2, (some .int), 1, 1, 0, 0, 0, false, 1)
abbrev mX11_cracks : tm_M := (11, yX11_cracks, cX11_cracks, 7, (some .int), 3, 5, 89, 0, 0, false, 1)
abbrev mX11_pullOf : tm_M := (11, yX11_pullOf, cX11_pullOf, 7, (some .int), 4, 4, 63, 0, 0, false, 1)
abbrev mX10_wholePull : tm_M := (10, yX10_wholePull, cX10_wholePull, 1, (some .int), 0, 3, 43, 0, 0, false, 1)
abbrev mX10_squares : tm_M := (10, yX10_squares, cX10_squares, 3, (some .int), 0, 2, 21, 0, 0, false, 1)
abbrev mX11_again : tm_M := (11, yX11_again, cX11_again, 2, (some .boolean), 1, 7, 136, 0, 0, false, 1)
abbrev mX11_cell : tm_M := (11, yX11_cell, cX11_cell, 5, (some .int), 3, 2, 23, 0, 0, false, 1)
abbrev mX11_pull : tm_M := (11, yX11_pull, cX11_pull, 3, (some .long), 2, 5, 89, 0, 0, false, 1)
abbrev mX11_lost : tm_M := (11, yX11_lost, cX11_lost, 2, (some .long), 1, 1, 0, 0, 0, false, 1)
abbrev mX11_curve : tm_M := (11, yX11_curve, cX11_curve, 2, (some .int), 1, 3, 48, 0, 0, false, 1)
abbrev mX11_isCut : tm_M := (11, yX11_isCut, cX11_isCut, 2, (some .boolean), 1, 1, 0, 0, 0, false, 1)
abbrev mX11_gone : tm_M := (11, yX11_gone, cX11_gone, 2, (some .int), 1, 1, 0, 0, 0, false, 1)
abbrev mX11_bend : tm_M := (11, yX11_bend, cX11_bend, 2, (some .int), 1, 4, 70, 0, 0, false, 1)
abbrev mX11_crack : tm_M := (11, yX11_crack, cX11_crack, 2, (some .int), 1, 2, 22, 0, 0, false, 1)
abbrev mX11_cold : tm_M := (11, yX11_cold, cX11_cold, 3, (some .int), 0, 2, 21, 0, 0, false, 1)
abbrev mX11_cloud : tm_M := (11, yX11_cloud, cX11_cloud, 3, (some .int), 2, 2, 24, 0, 0, false, 1)
abbrev mX11_cloudOf : tm_M := (11, yX11_cloudOf, cX11_cloudOf, 5, (some .int), 3, 1, 0, 0, 0, false, 1)
abbrev mX11_chip : tm_M := (11, yX11_chip, cX11_chip, 5, (some .int), 2, 2, 22, 0, 0, false, 1)
abbrev mX11_aim : tm_M := (11, yX11_aim, cX11_aim, 12, (some .int), 3, 7, 138, 0, 0, false, 1)
abbrev mX11_tries : tm_M := (11, yX11_tries, cX11_tries, 4, (some .boolean), 2, 6, 115, 0, 0, false, 1)
abbrev mX11_scatter : tm_M := (11, yX11_scatter, cX11_scatter, 5, (some .int), 3, 8, 166, 0, 0, false, 1)
abbrev mX11_refusesScatter : tm_M := (11, yX11_refusesScatter, cX11_refusesScatter, 4, (some .int), 3, 2, 22, 0, 0, false, 1)
abbrev mX11_scattered : tm_M := (11, yX11_scattered, cX11_scattered, 9, (some .int), 5, 7, 138, 0, 0, false, 1)
abbrev mX11_claysBy : tm_M := (11, yX11_claysBy, cX11_claysBy, 4, none, 1, 1, 0, 0, 0, false, 1)
abbrev mX11_bounded : tm_M := (11, yX11_bounded, cX11_bounded, 1, (some .int), 1, 1, 0, 0, 0, false, 0)
abbrev mX11_lowers : tm_M := (11, yX11_lowers, cX11_lowers, 9, (some .int), 3, 8, 166, 0, 0, false, 1)
abbrev mX11_why : tm_M := (11, yX11_why, cX11_why, 4, (some .int), 1, 7, 138, 0, 0, false, 1)
abbrev mX11_lay : tm_M := (11, yX11_lay, cX11_lay, 3, (some .boolean), 2, 2, 22, 0, 0, false, 1)
abbrev mX11_fold : tm_M := (11, yX11_fold, cX11_fold, 3, (some .int), 1, 2, 22, 0, 0, false, 1)
abbrev mX11_folds : tm_M := (11, yX11_folds, cX11_folds, 2, none, 1, 1, 0, 0, 0, false, 0)
abbrev mX11_layer : tm_M := (11, yX11_layer, cX11_layer, 2, (some .int), 1, 2, 22, 0, 0, false, 1)
abbrev mX11_even : tm_M := (11, yX11_even, cX11_even, 3, (some .int), 1, 2, 24, 0, 0, false, 1)
abbrev mX11_isEven : tm_M := (11, yX11_isEven, cX11_isEven, 5, (some .boolean), 2, 1, 0, 0, 0, false, 0)
abbrev mX11_colour : tm_M := (11, yX11_colour, cX11_colour, 3, (some .int), 2, 3, 45, 0, 0, false, 1)
abbrev mX11_colourOf : tm_M := (11, yX11_colourOf, cX11_colourOf, 4, (some .int), 2, 2, 22, 0, 0, false, 1)
abbrev mX11_eye : tm_M := (11, yX11_eye, cX11_eye, 9, (some .int), 5, 7, 138, 0, 0, false, 1)
abbrev mX11_polish : tm_M := (11, yX11_polish, cX11_polish, 3, (some .int), 1, 3, 48, 0, 0, false, 1)
abbrev mX11_stonesFor : tm_M := (11, yX11_stonesFor, cX11_stonesFor, 6, (some .int), 1, 2, 23, 0, 0, false, 1)
abbrev mX11_daysOf : tm_M := (11, yX11_daysOf, cX11_daysOf, 4, (some .int), 1, 1, 0, 0, 0, false, 1)
abbrev mX11_stones : tm_M := (11, yX11_stones, cX11_stones, 3, (some .int), 1, 3, 48, 0, 0, false, 1)
abbrev mX11_whose : tm_M := (11, yX11_whose, cX11_whose, 4, (some .int), 1, 2, 25, 0, 0, false, 1)
abbrev mX11_productOf : tm_M := (11, yX11_productOf, cX11_productOf, 6, (some .long), 2, 1, 0, 0, 0, true, 1)
abbrev mX11_odds : tm_M := (11, yX11_odds, cX11_odds, 6, (some .long), 2, 2, 25, 0, 0, true, 1)
abbrev mX11_learn : tm_M := (11, yX11_learn, cX11_learn, 5, (some .int), 4, 2, 22, 0, 0, false, 1)
abbrev mX11_next : tm_M := (11, yX11_next, cX11_next, 8, (some .int), 0, 2, 24, 0, 0, false, 1)
abbrev mX11_differs : tm_M := (11, yX11_differs, cX11_differs, 5, (some .int), 3, 1, 0, 0, 0, false, 1)
abbrev mX11_led : tm_M := (11, yX11_led, cX11_led, 2, (some .int), 1, 1, 0, 0, 0, false, 1)
abbrev mX11_size : tm_M := (11, yX11_size, cX11_size, 2, (some .int), 1, 4, 63, 0, 0, false, 1)
abbrev mX11_trouble : tm_M := (11, yX11_trouble, cX11_trouble, 1, (some .int), 0, 1, 0, 0, 0, false, 1)
abbrev tf_0 : List (Nat × Nat × Nat) := [(12, 0, 0), (18, 3, 0), (38, 0, 1), (43, 0, 2), (46, 0, 3)]
abbrev tq_0 : List (Nat × tm_M) := [(9, mX4_init), (24, mX5_at), (30, mX4_fit), (34, mX0_heatTo), (42, mX4_heatTo), (49, mX4_isCracked), (53, mX4_coolOnce), (56, mX4_bendNow), (68, mX4_tenth), (71, mX0_coolFor)]
abbrev tc_0 : List (Nat × Nat) := [(7, 4)]
abbrev ts_0 : List (Nat × Nat) := []
abbrev tb_0 : List (Nat × Nat) := [(1, 3), (60, 5), (65, 4)]
abbrev tk_0 : List (Nat × Int32) := []
abbrev tl_0 : List (Nat × Int64) := []
abbrev tf_1 : List (Nat × Nat × Nat) := [(11, 1, 0), (15, 1, 1), (24, 1, 2)]
abbrev tq_1 : List (Nat × tm_M) := [(18, mJ7_fill_53178), (28, mX1_has), (32, mX1_foldOver), (42, mX1_spread)]
abbrev tc_1 : List (Nat × Nat) := []
abbrev ts_1 : List (Nat × Nat) := []
abbrev tb_1 : List (Nat × Nat) := [(3, 3), (36, 2), (46, 5), (52, 4)]
abbrev tk_1 : List (Nat × Int32) := []
abbrev tl_1 : List (Nat × Int64) := []
abbrev tf_2 : List (Nat × Nat × Nat) := [(11, 2, 0), (15, 2, 1), (18, 2, 2), (21, 2, 3)]
abbrev tq_2 : List (Nat × tm_M) := [(25, mX2_isFull), (29, mX2_countGains), (32, mJ7_fill_53178), (38, mX2_wayBetween), (42, mJ6_compare_7cf53)]
abbrev tc_2 : List (Nat × Nat) := []
abbrev ts_2 : List (Nat × Nat) := []
abbrev tb_2 : List (Nat × Nat) := [(3, 3)]
abbrev tk_2 : List (Nat × Int32) := []
abbrev tl_2 : List (Nat × Int64) := []
abbrev tf_3 : List (Nat × Nat × Nat) := [(14, 3, 0), (20, 3, 1), (23, 3, 2), (26, 3, 3), (29, 3, 4), (32, 3, 5), (35, 3, 6), (38, 3, 7), (42, 3, 8)]
abbrev tq_3 : List (Nat × tm_M) := [(11, mX5_init), (45, mX5_count), (49, mX5_at), (61, mX5_clear), (64, mX3_daysOf), (68, mX3_signsOf), (71, mX3_productOf)]
abbrev tc_3 : List (Nat × Nat) := [(9, 5)]
abbrev ts_3 : List (Nat × Nat) := []
abbrev tb_3 : List (Nat × Nat) := [(3, 3), (53, 5), (58, 4)]
abbrev tk_3 : List (Nat × Int32) := []
abbrev tl_3 : List (Nat × Int64) := []
abbrev tf_4 : List (Nat × Nat × Nat) := [(11, 4, 0), (15, 4, 1), (18, 4, 2), (21, 4, 3), (24, 4, 4), (27, 4, 5), (30, 4, 6), (33, 4, 7), (36, 4, 8), (39, 4, 9), (42, 4, 17), (46, 4, 10), (54, 4, 11), (57, 3, 0), (69, 4, 12), (72, 3, 1), (75, 4, 14), (78, 4, 13), (91, 3, 2), (98, 4, 15), (101, 4, 16)]
abbrev tq_4 : List (Nat × tm_M) := [(50, mX9_kept), (63, mX5_at), (81, mJ7_fill_53178), (87, mX4_heatTo), (94, mX4_wholePull), (104, mX4_sizeCut), (107, mX4_has), (116, mX4_coolCut), (120, mX3_kindOfFall), (123, mX4_turnCell), (127, mX4_strainCut), (130, mX4_gained), (133, mX4_totalOf), (137, mX4_curveOf), (140, mX4_pullBy), (147, mX4_kindOf), (150, mX4_isHard)]
abbrev tc_4 : List (Nat × Nat) := []
abbrev ts_4 : List (Nat × Nat) := []
abbrev tb_4 : List (Nat × Nat) := [(5, 3), (111, 4), (144, 6)]
abbrev tk_4 : List (Nat × Int32) := []
abbrev tl_4 : List (Nat × Int64) := []
abbrev tf_5 : List (Nat × Nat × Nat) := [(7, 5, 0), (13, 5, 1), (16, 5, 2), (20, 5, 3)]
abbrev tq_5 : List (Nat × tm_M) := []
abbrev tc_5 : List (Nat × Nat) := []
abbrev ts_5 : List (Nat × Nat) := []
abbrev tb_5 : List (Nat × Nat) := [(1, 3)]
abbrev tk_5 : List (Nat × Int32) := []
abbrev tl_5 : List (Nat × Int64) := []
abbrev tf_6 : List (Nat × Nat × Nat) := [(12, 6, 0), (18, 6, 1), (22, 6, 2), (26, 6, 4), (35, 6, 3), (39, 6, 6), (70, 3, 0), (79, 3, 1), (82, 3, 2), (114, 3, 3), (122, 3, 4), (130, 3, 5), (138, 3, 6), (185, 6, 5)]
abbrev tq_6 : List (Nat × tm_M) := [(11, mX7_init), (30, mX3_clear), (42, mX7_begin), (46, mX6_readLine), (50, mX7_sort), (54, mX6_parts), (57, mX6_lacks), (60, mX6_fails), (64, mX7_place), (67, mX7_step), (74, mX5_isFull), (85, mX5_count), (90, mX7_isWord), (94, mX6_hasRoom), (98, mX6_readBar), (104, mX6_readWater), (109, mX6_readKind), (117, mX6_readTurn), (125, mX6_readRed), (133, mX6_readStone), (141, mX6_readSmith), (146, mX6_tells), (152, mX6_ends), (155, mX6_tellsWhole), (167, mX6_takesNewName), (176, mX6_takesKindTurnedTo), (188, mX5_close), (195, mX6_takesWord), (198, mX6_readSigns), (201, mX6_isWhole), (205, mX5_put), (209, mX6_keeps), (212, mX7_wholeNumber), (215, mX9_within), (219, mX6_isName), (222, mX6_nameAtHand), (225, mX7_wordNumber)]
abbrev tc_6 : List (Nat × Nat) := [(9, 7)]
abbrev ts_6 : List (Nat × Nat) := [(88, 0), (102, 1), (107, 2), (112, 3), (120, 4), (128, 5), (136, 6), (144, 7), (150, 8), (159, 9), (161, 10), (163, 11), (165, 12), (170, 13), (172, 14), (174, 15), (179, 16), (181, 17), (183, 18), (191, 19), (193, 20)]
abbrev tb_6 : List (Nat × Nat) := [(3, 3)]
abbrev tk_6 : List (Nat × Int32) := []
abbrev tl_6 : List (Nat × Int64) := []
abbrev tf_7 : List (Nat × Nat × Nat) := [(7, 7, 0), (19, 7, 1), (23, 7, 3), (29, 7, 4), (32, 7, 2)]
abbrev tq_7 : List (Nat × tm_M) := [(13, mX9_kept), (26, mX7_step), (35, mX7_takeRun)]
abbrev tc_7 : List (Nat × Nat) := []
abbrev ts_7 : List (Nat × Nat) := []
abbrev tb_7 : List (Nat × Nat) := [(1, 3), (39, 0), (45, 1)]
abbrev tk_7 : List (Nat × Int32) := []
abbrev tl_7 : List (Nat × Int64) := [(49, (27 : Int64))]
abbrev tf_8 : List (Nat × Nat × Nat) := [(11, 8, 1), (20, 8, 0), (24, 8, 2), (46, 3, 1)]
abbrev tq_8 : List (Nat × tm_M) := [(17, mX4_init), (28, mX4_fit), (32, mX4_pourWater), (36, mX4_heatTo), (39, mX4_isCracked), (43, mX4_coolOnce), (52, mX5_at), (58, mX9_kept), (62, mX4_setClay), (66, mX8_toldWater), (70, mX8_clayWith), (73, mX8_heatWith), (76, mX8_waterWith), (80, mX8_cracksAt), (84, mX8_cracksWith), (87, mX8_cracksOfNine), (91, mX4_width), (94, mX8_totalOfWay), (97, mX8_isAimed), (101, mX8_tensOfWay), (104, mX8_usefulClay), (107, mX8_clayOfWay), (110, mX4_cloudOf), (113, mX4_isHardBehind), (117, mX3_redOf)]
abbrev tc_8 : List (Nat × Nat) := [(9, 4)]
abbrev ts_8 : List (Nat × Nat) := []
abbrev tb_8 : List (Nat × Nat) := [(3, 3)]
abbrev tk_8 : List (Nat × Int32) := []
abbrev tl_8 : List (Nat × Int64) := []
abbrev tf_9 : List (Nat × Nat × Nat) := [(9, 9, 0), (16, 9, 1), (23, 9, 2), (30, 9, 3), (34, 9, 4), (42, 9, 5), (49, 9, 6), (56, 9, 7), (60, 9, 9), (80, 9, 10), (83, 9, 8), (98, 3, 2), (111, 9, 11), (131, 0, 0), (254, 3, 4), (270, 3, 6), (326, 3, 3), (329, 3, 5)]
abbrev tq_9 : List (Nat × tm_M) := [(15, mX1_init), (22, mX2_init), (29, mX3_init), (39, mX6_init), (48, mX0_init), (55, mX8_init), (64, mX9_putNumber), (68, mX9_within), (72, mX9_refuse), (76, mX6_readInto), (87, mX3_markTurns), (90, mX0_fit), (93, mX8_fit), (94, mX1_clear), (97, mX2_clear), (102, mX5_count), (108, mX9_answer), (114, mX6_place), (117, mX9_refuses), (121, mX9_isHeat), (124, mX0_heatTo), (127, mX9_agrees), (135, mX4_has), (141, mX4_tenth), (144, mX4_setClay), (148, mX4_isCracked), (151, mX0_coolFor), (154, mX0_goBackTo), (157, mX4_heatOf), (161, mX4_kindOf), (164, mX4_clayOf), (167, mX4_sizeOf), (170, mX4_turnOf), (175, mX4_pullOf), (179, mX4_curveOf), (182, mX4_bendNow), (185, mX0_leastBend), (188, mX0_greatestBend), (191, mX4_crackAlong), (194, mX4_crackAcross), (197, mX4_isCold), (200, mX9_isHardness), (203, mX4_cloudOf), (206, mX4_chipFrom), (209, mX9_isWidth), (212, mX8_leastClay), (216, mX9_isScatter), (219, mX9_trialsOfBar), (223, mX8_cracksOfNine), (227, mX8_bestChange), (230, mX8_cracksWith), (233, mX8_savingChanges), (236, mX1_has), (238, mX1_put), (242, mX1_foldTimes), (245, mX1_at), (248, mX1_foldsTillEven), (251, mX3_redOf), (257, mX8_lookingSo), (260, mX8_crackingByEye), (263, mX8_cloudedByEye), (266, mX9_shown), (273, mX9_isSigns), (276, mX3_likeliestSmith), (279, mX3_productOfAll), (283, mX3_productOf), (287, mX2_isFull), (290, mX2_add), (293, mX2_bestWay), (296, mX4_turned), (302, mX4_turnedCell), (305, mX4_cuts), (308, mX4_width), (311, mX2_count), (312, mX4_wholePull), (315, mX9_linesTold), (318, mX8_setClay), (320, mX3_stonesThatShow), (323, mX3_daysOf)]
abbrev tc_9 : List (Nat × Nat) := [(13, 1), (20, 2), (27, 3), (37, 6), (46, 0), (53, 8)]
abbrev ts_9 : List (Nat × Nat) := []
abbrev tb_9 : List (Nat × Nat) := [(1, 3)]
abbrev tk_9 : List (Nat × Int32) := [(178, (-2147483648 : Int32))]
abbrev tl_9 : List (Nat × Int64) := [(173, (-9223372036854775808 : Int64))]
abbrev tf_10 : List (Nat × Nat × Nat) := [(9, 10, 2), (15, 10, 13), (19, 10, 14), (22, 10, 15), (25, 10, 16), (28, 10, 17), (31, 10, 18), (34, 10, 19), (37, 10, 20), (40, 10, 21), (43, 10, 22), (46, 10, 23), (49, 10, 24), (53, 10, 25), (56, 10, 12), (59, 10, 1)]
abbrev tq_10 : List (Nat × tm_M) := [(62, mX10_spread), (66, mX10_squares)]
abbrev tc_10 : List (Nat × Nat) := []
abbrev ts_10 : List (Nat × Nat) := []
abbrev tb_10 : List (Nat × Nat) := [(3, 3)]
abbrev tk_10 : List (Nat × Int32) := []
abbrev tl_10 : List (Nat × Int64) := []
abbrev tf_11 : List (Nat × Nat × Nat) := [(9, 11, 2), (13, 11, 5), (17, 11, 16), (21, 11, 17), (24, 11, 18), (27, 11, 19), (30, 11, 20), (33, 11, 23), (36, 11, 27), (39, 11, 28), (42, 11, 29), (45, 11, 30), (48, 11, 31), (51, 11, 32), (54, 11, 34), (57, 11, 0), (60, 11, 1), (66, 11, 7), (81, 11, 9), (84, 11, 8), (91, 11, 10), (94, 11, 11), (101, 11, 15), (108, 11, 12), (115, 11, 13), (118, 11, 14), (164, 11, 4), (168, 10, 0), (172, 10, 2), (174, 10, 7), (205, 10, 1), (209, 10, 3), (213, 10, 4), (217, 10, 5), (221, 10, 6), (231, 10, 24), (235, 10, 12), (238, 10, 25), (251, 10, 13), (253, 10, 14), (255, 10, 15), (257, 10, 8), (264, 10, 16), (267, 10, 17), (269, 10, 18), (271, 10, 9), (276, 10, 19), (279, 10, 20), (282, 10, 10), (292, 10, 21), (294, 10, 22), (296, 10, 11), (299, 10, 23), (302, 11, 6), (312, 11, 3), (315, 11, 33), (334, 11, 24), (357, 11, 21), (360, 11, 22), (363, 11, 25), (366, 11, 26)]
abbrev tq_11 : List (Nat × tm_M) := [(87, mX11_byteAt), (97, mX11_isLetter), (105, mX11_isDigit), (111, mX11_wrongHere), (121, mX11_wordOf), (125, mX11_is), (128, mX11_goesOn), (131, mX11_wrong), (135, mX11_in), (139, mX11_isWord), (143, mX11_readWhole), (161, mX11_readLine), (176, mX11_readBar), (179, mX11_readWater), (182, mX11_readKind), (185, mX11_readTurn), (188, mX11_readRed), (191, mX11_readStone), (194, mX11_readSmith), (199, mX11_readPart), (223, mX11_isName), (227, mX10_find), (241, mX11_readNamed), (289, mX11_eatsComma), (305, mX11_refused), (308, mX10_init), (309, mX11_readBook), (318, mX11_begins), (321, mX11_done), (324, mX11_flows), (327, mX11_cooled), (331, mX11_turnsTo), (337, mX11_sizeOf), (341, mX10_spread), (344, mX10_wholePull), (347, mX10_squares), (350, mX11_curveOf), (353, mX11_pullOf), (369, mX11_cools), (373, mX11_bendOf), (376, mX11_cracks), (379, mX11_denied), (382, mX11_granted), (385, mX11_isCell), (389, mX11_passes), (392, mX11_lost), (396, mX11_isCut), (399, mX11_gone), (402, mX11_cloudOf), (406, mX11_tries), (409, mX11_claysBy), (412, mX11_bounded), (415, mX11_refusesScatter), (419, mX11_scattered), (423, mX11_folds), (427, mX11_isEven), (431, mX11_colourOf), (434, mX11_daysOf), (437, mX11_stonesFor), (440, mX11_productOf), (444, mX11_differs)]
abbrev tc_11 : List (Nat × Nat) := [(169, 10)]
abbrev ts_11 : List (Nat × Nat) := [(147, 21), (149, 22), (151, 23), (153, 24), (155, 25), (157, 26), (159, 27), (197, 28), (203, 29), (207, 30), (211, 31), (215, 32), (219, 33), (245, 34), (247, 35), (249, 36), (260, 37), (262, 38), (274, 39), (285, 40), (287, 41)]
abbrev tb_11 : List (Nat × Nat) := [(3, 3), (69, 0), (77, 1)]
abbrev tk_11 : List (Nat × Int32) := [(65, (-2147483648 : Int32))]
abbrev tl_11 : List (Nat × Int64) := [(75, (32 : Int64)), (63, (-9223372036854775808 : Int64))]
abbrev tf_21 : List (Nat × Nat × Nat) := []
abbrev tq_21 : List (Nat × tm_M) := []
abbrev tc_21 : List (Nat × Nat) := []
abbrev ts_21 : List (Nat × Nat) := []
abbrev tb_21 : List (Nat × Nat) := []
abbrev tk_21 : List (Nat × Int32) := []
abbrev tl_21 : List (Nat × Int64) := []
abbrev tf_22 : List (Nat × Nat × Nat) := []
abbrev tq_22 : List (Nat × tm_M) := []
abbrev tc_22 : List (Nat × Nat) := []
abbrev ts_22 : List (Nat × Nat) := []
abbrev tb_22 : List (Nat × Nat) := []
abbrev tk_22 : List (Nat × Int32) := []
abbrev tl_22 : List (Nat × Int64) := []
def tm_pools : Nat → tm_PL := fun oc => match oc with
  | 0 => (tf_0, tq_0, tc_0, ts_0, tb_0, tk_0, tl_0)
  | 1 => (tf_1, tq_1, tc_1, ts_1, tb_1, tk_1, tl_1)
  | 2 => (tf_2, tq_2, tc_2, ts_2, tb_2, tk_2, tl_2)
  | 3 => (tf_3, tq_3, tc_3, ts_3, tb_3, tk_3, tl_3)
  | 4 => (tf_4, tq_4, tc_4, ts_4, tb_4, tk_4, tl_4)
  | 5 => (tf_5, tq_5, tc_5, ts_5, tb_5, tk_5, tl_5)
  | 6 => (tf_6, tq_6, tc_6, ts_6, tb_6, tk_6, tl_6)
  | 7 => (tf_7, tq_7, tc_7, ts_7, tb_7, tk_7, tl_7)
  | 8 => (tf_8, tq_8, tc_8, ts_8, tb_8, tk_8, tl_8)
  | 9 => (tf_9, tq_9, tc_9, ts_9, tb_9, tk_9, tl_9)
  | 10 => (tf_10, tq_10, tc_10, ts_10, tb_10, tk_10, tl_10)
  | 11 => (tf_11, tq_11, tc_11, ts_11, tb_11, tk_11, tl_11)
  | 21 => (tf_21, tq_21, tc_21, ts_21, tb_21, tk_21, tl_21)
  | 22 => (tf_22, tq_22, tc_22, ts_22, tb_22, tk_22, tl_22)
  | _ => ([], [], [], [], [], [], [])
def tm_names : Nat → String := fun oc => match oc with
  | 0 => RX0
  | 1 => RX1
  | 2 => RX2
  | 3 => RX3
  | 4 => RX4
  | 5 => RX5
  | 6 => RX6
  | 7 => RX7
  | 8 => RX8
  | 9 => RX9
  | 10 => RX10
  | 11 => RX11
  | 21 => RJ6
  | 22 => RJ7
  | _ => ""
def tm_types : Nat → Nat → FieldType := fun ci k => match ci with
  | 0 => tyX0 k
  | 1 => tyX1 k
  | 2 => tyX2 k
  | 3 => tyX3 k
  | 4 => tyX4 k
  | 5 => tyX5 k
  | 6 => tyX6 k
  | 7 => tyX7 k
  | 8 => tyX8 k
  | 9 => tyX9 k
  | 10 => tyX10 k
  | 11 => tyX11 k
  | _ => .int
def tm_dflt : Nat → List Value := fun ci => match ci with
  | 0 => [.null, .int 0, .int 0, .int 0]
  | 1 => [.null, .null, .int 0]
  | 2 => [.null, .null, .null, .int 0]
  | 3 => [.null, .null, .null, .null, .null, .null, .null, .int 0, .int 0]
  | 4 => [.null, .null, .null, .null, .null, .null, .null, .null, .null, .null, .null, .int 0, .int 0, .int 0, .int 0, .int 0, .int 0, .int 0]
  | 5 => [.int 0, .int 0, .null, .int 0]
  | 6 => [.null, .null, .null, .int 0, .null, .int 0, .int 0]
  | 7 => [.null, .int 0, .int 0, .int 0, .int 0]
  | 8 => [.null, .null, .null]
  | 9 => [.null, .null, .null, .null, .null, .null, .null, .null, .int 0, .int 0, .int 0, .int 0]
  | 10 => [.int 0, .int 0, .int 0, .int 0, .int 0, .int 0, .int 0, .int 0, .int 0, .int 0, .int 0, .int 0, .int 0, .null, .null, .null, .null, .null, .null, .null, .null, .null, .null, .null, .null, .null]
  | 11 => [.int 0, .int 0, .int 0, .null, .null, .null, .int 0, .int 0, .int 0, .int 0, .int 0, .int 0, .int 0, .int 0, .int 0, .long 0, .null, .null, .null, .null, .null, .int 0, .int 0, .int 0, .int 0, .int 0, .int 0, .null, .null, .null, .null, .null, .null, .int 0, .null]
  | _ => []
def tm_text : Nat → List Int32 := fun i => match i with
  | 0 => [98, 97, 114]
  | 1 => [119, 97, 116, 101, 114]
  | 2 => [107, 105, 110, 100]
  | 3 => [116, 117, 114, 110]
  | 4 => [114, 101, 100]
  | 5 => [115, 116, 111, 110, 101]
  | 6 => [115, 109, 105, 116, 104]
  | 7 => [108, 111, 110, 103]
  | 8 => [119, 105, 100, 101]
  | 9 => [112, 117, 108, 108, 115]
  | 10 => [115, 104, 105, 101, 108, 100]
  | 11 => [102, 108, 111, 119]
  | 12 => [115, 119, 101, 108, 108]
  | 13 => [104, 97, 114, 100]
  | 14 => [114, 111, 111, 109]
  | 15 => [98, 101, 97, 114, 115]
  | 16 => [98, 101, 108, 111, 119]
  | 17 => [100, 114, 111, 112]
  | 18 => [116, 111]
  | 19 => [100, 97, 121, 115]
  | 20 => [115, 104, 111, 119, 115]
  | 21 => [98, 97, 114]
  | 22 => [119, 97, 116, 101, 114]
  | 23 => [107, 105, 110, 100]
  | 24 => [116, 117, 114, 110]
  | 25 => [114, 101, 100]
  | 26 => [115, 116, 111, 110, 101]
  | 27 => [115, 109, 105, 116, 104]
  | 28 => [108, 111, 110, 103]
  | 29 => [119, 105, 100, 101]
  | 30 => [112, 117, 108, 108, 115]
  | 31 => [115, 104, 105, 101, 108, 100]
  | 32 => [102, 108, 111, 119]
  | 33 => [115, 119, 101, 108, 108]
  | 34 => [104, 97, 114, 100]
  | 35 => [114, 111, 111, 109]
  | 36 => [98, 101, 97, 114, 115]
  | 37 => [98, 101, 108, 111, 119]
  | 38 => [100, 114, 111, 112]
  | 39 => [116, 111]
  | 40 => [100, 97, 121, 115]
  | 41 => [115, 104, 111, 119, 115]
  | _ => []
def tm_G : tm_PG := (tm_pools, tm_types, tm_dflt, tm_text, tm_names)
theorem tm_look {α : Type} {l : List (Nat × α)} {k : Nat} {v : α} (h : l.lookup k = some v) : (k, v) ∈ l := by
  induction l with
  | nil => cases h
  | cons a l ih =>
    obtain ⟨a1, a2⟩ := a
    rw [List.lookup_cons] at h
    split at h
    · rename_i e
      rw [beq_iff_eq] at e
      subst e
      cases h
      exact List.mem_cons_self
    · exact List.mem_cons_of_mem _ (ih h)
def tm_okf (oc : Nat) (q : Nat × Nat × Nat) : Prop := ∃ C T N, vwCl[q.2.1]? = some (C, T, N) ∧ q.2.2 < N ∧ (Jvm.Cond.fieldLink (tm_names oc) q.1 (T q.2.2).1 (T q.2.2).2.1 (T q.2.2).2.2.1 ∈ lw_tbl ∨ ∃ host, Jvm.Cond.fieldLinkNest (tm_names oc) q.1 (T q.2.2).1 (T q.2.2).2.1 (T q.2.2).2.2.1 host ∈ lw_tbl ∧ oc ≠ q.2.1)
theorem tz_f_0_12 : tm_okf 0 (12, 0, 0) := ⟨RX0, TX0, 4, rfl, by decide, Or.inl (tm_in1 (i := 258) (by decide +kernel))⟩
theorem tz_f_0_18 : tm_okf 0 (18, 3, 0) := ⟨RX3, TX3, 9, rfl, by decide, Or.inl (tm_in1 (i := 96) (by decide +kernel))⟩
theorem tz_f_0_38 : tm_okf 0 (38, 0, 1) := ⟨RX0, TX0, 4, rfl, by decide, Or.inl (tm_in1 (i := 260) (by decide +kernel))⟩
theorem tz_f_0_43 : tm_okf 0 (43, 0, 2) := ⟨RX0, TX0, 4, rfl, by decide, Or.inl (tm_in1 (i := 261) (by decide +kernel))⟩
theorem tz_f_0_46 : tm_okf 0 (46, 0, 3) := ⟨RX0, TX0, 4, rfl, by decide, Or.inl (tm_in1 (i := 262) (by decide +kernel))⟩
set_option maxRecDepth 20000 in
theorem tz_f_0 : ∀ q ∈ tf_0, tm_okf 0 q := List.forall_mem_cons.mpr ⟨tz_f_0_12, List.forall_mem_cons.mpr ⟨tz_f_0_18, List.forall_mem_cons.mpr ⟨tz_f_0_38, List.forall_mem_cons.mpr ⟨tz_f_0_43, List.forall_mem_cons.mpr ⟨tz_f_0_46, fun _ h => absurd h List.not_mem_nil⟩⟩⟩⟩⟩
theorem tz_f_1_11 : tm_okf 1 (11, 1, 0) := ⟨RX1, TX1, 3, rfl, by decide, Or.inl (tm_in1 (i := 39) (by decide +kernel))⟩
theorem tz_f_1_15 : tm_okf 1 (15, 1, 1) := ⟨RX1, TX1, 3, rfl, by decide, Or.inl (tm_in1 (i := 40) (by decide +kernel))⟩
theorem tz_f_1_24 : tm_okf 1 (24, 1, 2) := ⟨RX1, TX1, 3, rfl, by decide, Or.inl (tm_in1 (i := 41) (by decide +kernel))⟩
set_option maxRecDepth 20000 in
theorem tz_f_1 : ∀ q ∈ tf_1, tm_okf 1 q := List.forall_mem_cons.mpr ⟨tz_f_1_11, List.forall_mem_cons.mpr ⟨tz_f_1_15, List.forall_mem_cons.mpr ⟨tz_f_1_24, fun _ h => absurd h List.not_mem_nil⟩⟩⟩
theorem tz_f_2_11 : tm_okf 2 (11, 2, 0) := ⟨RX2, TX2, 4, rfl, by decide, Or.inl (tm_in1 (i := 57) (by decide +kernel))⟩
theorem tz_f_2_15 : tm_okf 2 (15, 2, 1) := ⟨RX2, TX2, 4, rfl, by decide, Or.inl (tm_in1 (i := 58) (by decide +kernel))⟩
theorem tz_f_2_18 : tm_okf 2 (18, 2, 2) := ⟨RX2, TX2, 4, rfl, by decide, Or.inl (tm_in1 (i := 59) (by decide +kernel))⟩
theorem tz_f_2_21 : tm_okf 2 (21, 2, 3) := ⟨RX2, TX2, 4, rfl, by decide, Or.inl (tm_in1 (i := 60) (by decide +kernel))⟩
set_option maxRecDepth 20000 in
theorem tz_f_2 : ∀ q ∈ tf_2, tm_okf 2 q := List.forall_mem_cons.mpr ⟨tz_f_2_11, List.forall_mem_cons.mpr ⟨tz_f_2_15, List.forall_mem_cons.mpr ⟨tz_f_2_18, List.forall_mem_cons.mpr ⟨tz_f_2_21, fun _ h => absurd h List.not_mem_nil⟩⟩⟩⟩
theorem tz_f_3_14 : tm_okf 3 (14, 3, 0) := ⟨RX3, TX3, 9, rfl, by decide, Or.inl (tm_in1 (i := 95) (by decide +kernel))⟩
theorem tz_f_3_20 : tm_okf 3 (20, 3, 1) := ⟨RX3, TX3, 9, rfl, by decide, Or.inl (tm_in1 (i := 99) (by decide +kernel))⟩
theorem tz_f_3_23 : tm_okf 3 (23, 3, 2) := ⟨RX3, TX3, 9, rfl, by decide, Or.inl (tm_in1 (i := 103) (by decide +kernel))⟩
theorem tz_f_3_26 : tm_okf 3 (26, 3, 3) := ⟨RX3, TX3, 9, rfl, by decide, Or.inl (tm_in1 (i := 107) (by decide +kernel))⟩
theorem tz_f_3_29 : tm_okf 3 (29, 3, 4) := ⟨RX3, TX3, 9, rfl, by decide, Or.inl (tm_in1 (i := 110) (by decide +kernel))⟩
theorem tz_f_3_32 : tm_okf 3 (32, 3, 5) := ⟨RX3, TX3, 9, rfl, by decide, Or.inl (tm_in1 (i := 113) (by decide +kernel))⟩
theorem tz_f_3_35 : tm_okf 3 (35, 3, 6) := ⟨RX3, TX3, 9, rfl, by decide, Or.inl (tm_in1 (i := 116) (by decide +kernel))⟩
theorem tz_f_3_38 : tm_okf 3 (38, 3, 7) := ⟨RX3, TX3, 9, rfl, by decide, Or.inl (tm_in1 (i := 119) (by decide +kernel))⟩
theorem tz_f_3_42 : tm_okf 3 (42, 3, 8) := ⟨RX3, TX3, 9, rfl, by decide, Or.inl (tm_in1 (i := 120) (by decide +kernel))⟩
set_option maxRecDepth 20000 in
theorem tz_f_3 : ∀ q ∈ tf_3, tm_okf 3 q := List.forall_mem_cons.mpr ⟨tz_f_3_14, List.forall_mem_cons.mpr ⟨tz_f_3_20, List.forall_mem_cons.mpr ⟨tz_f_3_23, List.forall_mem_cons.mpr ⟨tz_f_3_26, List.forall_mem_cons.mpr ⟨tz_f_3_29, List.forall_mem_cons.mpr ⟨tz_f_3_32, List.forall_mem_cons.mpr ⟨tz_f_3_35, List.forall_mem_cons.mpr ⟨tz_f_3_38, List.forall_mem_cons.mpr ⟨tz_f_3_42, fun _ h => absurd h List.not_mem_nil⟩⟩⟩⟩⟩⟩⟩⟩⟩
theorem tz_f_4_11 : tm_okf 4 (11, 4, 0) := ⟨RX4, TX4, 18, rfl, by decide, Or.inl (tm_in1 (i := 203) (by decide +kernel))⟩
theorem tz_f_4_15 : tm_okf 4 (15, 4, 1) := ⟨RX4, TX4, 18, rfl, by decide, Or.inl (tm_in1 (i := 204) (by decide +kernel))⟩
theorem tz_f_4_18 : tm_okf 4 (18, 4, 2) := ⟨RX4, TX4, 18, rfl, by decide, Or.inl (tm_in1 (i := 205) (by decide +kernel))⟩
theorem tz_f_4_21 : tm_okf 4 (21, 4, 3) := ⟨RX4, TX4, 18, rfl, by decide, Or.inl (tm_in1 (i := 206) (by decide +kernel))⟩
theorem tz_f_4_24 : tm_okf 4 (24, 4, 4) := ⟨RX4, TX4, 18, rfl, by decide, Or.inl (tm_in1 (i := 207) (by decide +kernel))⟩
theorem tz_f_4_27 : tm_okf 4 (27, 4, 5) := ⟨RX4, TX4, 18, rfl, by decide, Or.inl (tm_in1 (i := 208) (by decide +kernel))⟩
theorem tz_f_4_30 : tm_okf 4 (30, 4, 6) := ⟨RX4, TX4, 18, rfl, by decide, Or.inl (tm_in1 (i := 209) (by decide +kernel))⟩
theorem tz_f_4_33 : tm_okf 4 (33, 4, 7) := ⟨RX4, TX4, 18, rfl, by decide, Or.inl (tm_in1 (i := 210) (by decide +kernel))⟩
theorem tz_f_4_36 : tm_okf 4 (36, 4, 8) := ⟨RX4, TX4, 18, rfl, by decide, Or.inl (tm_in1 (i := 211) (by decide +kernel))⟩
theorem tz_f_4_39 : tm_okf 4 (39, 4, 9) := ⟨RX4, TX4, 18, rfl, by decide, Or.inl (tm_in1 (i := 212) (by decide +kernel))⟩
theorem tz_f_4_42 : tm_okf 4 (42, 4, 17) := ⟨RX4, TX4, 18, rfl, by decide, Or.inl (tm_in1 (i := 220) (by decide +kernel))⟩
theorem tz_f_4_46 : tm_okf 4 (46, 4, 10) := ⟨RX4, TX4, 18, rfl, by decide, Or.inl (tm_in1 (i := 213) (by decide +kernel))⟩
theorem tz_f_4_54 : tm_okf 4 (54, 4, 11) := ⟨RX4, TX4, 18, rfl, by decide, Or.inl (tm_in1 (i := 214) (by decide +kernel))⟩
theorem tz_f_4_57 : tm_okf 4 (57, 3, 0) := ⟨RX3, TX3, 9, rfl, by decide, Or.inl (tm_in1 (i := 97) (by decide +kernel))⟩
theorem tz_f_4_69 : tm_okf 4 (69, 4, 12) := ⟨RX4, TX4, 18, rfl, by decide, Or.inl (tm_in1 (i := 215) (by decide +kernel))⟩
theorem tz_f_4_72 : tm_okf 4 (72, 3, 1) := ⟨RX3, TX3, 9, rfl, by decide, Or.inl (tm_in1 (i := 100) (by decide +kernel))⟩
theorem tz_f_4_75 : tm_okf 4 (75, 4, 14) := ⟨RX4, TX4, 18, rfl, by decide, Or.inl (tm_in1 (i := 217) (by decide +kernel))⟩
theorem tz_f_4_78 : tm_okf 4 (78, 4, 13) := ⟨RX4, TX4, 18, rfl, by decide, Or.inl (tm_in1 (i := 216) (by decide +kernel))⟩
theorem tz_f_4_91 : tm_okf 4 (91, 3, 2) := ⟨RX3, TX3, 9, rfl, by decide, Or.inl (tm_in1 (i := 104) (by decide +kernel))⟩
theorem tz_f_4_98 : tm_okf 4 (98, 4, 15) := ⟨RX4, TX4, 18, rfl, by decide, Or.inl (tm_in1 (i := 218) (by decide +kernel))⟩
theorem tz_f_4_101 : tm_okf 4 (101, 4, 16) := ⟨RX4, TX4, 18, rfl, by decide, Or.inl (tm_in1 (i := 219) (by decide +kernel))⟩
set_option maxRecDepth 20000 in
theorem tz_f_4 : ∀ q ∈ tf_4, tm_okf 4 q := List.forall_mem_cons.mpr ⟨tz_f_4_11, List.forall_mem_cons.mpr ⟨tz_f_4_15, List.forall_mem_cons.mpr ⟨tz_f_4_18, List.forall_mem_cons.mpr ⟨tz_f_4_21, List.forall_mem_cons.mpr ⟨tz_f_4_24, List.forall_mem_cons.mpr ⟨tz_f_4_27, List.forall_mem_cons.mpr ⟨tz_f_4_30, List.forall_mem_cons.mpr ⟨tz_f_4_33, List.forall_mem_cons.mpr ⟨tz_f_4_36, List.forall_mem_cons.mpr ⟨tz_f_4_39, List.forall_mem_cons.mpr ⟨tz_f_4_42, List.forall_mem_cons.mpr ⟨tz_f_4_46, List.forall_mem_cons.mpr ⟨tz_f_4_54, List.forall_mem_cons.mpr ⟨tz_f_4_57, List.forall_mem_cons.mpr ⟨tz_f_4_69, List.forall_mem_cons.mpr ⟨tz_f_4_72, List.forall_mem_cons.mpr ⟨tz_f_4_75, List.forall_mem_cons.mpr ⟨tz_f_4_78, List.forall_mem_cons.mpr ⟨tz_f_4_91, List.forall_mem_cons.mpr ⟨tz_f_4_98, List.forall_mem_cons.mpr ⟨tz_f_4_101, fun _ h => absurd h List.not_mem_nil⟩⟩⟩⟩⟩⟩⟩⟩⟩⟩⟩⟩⟩⟩⟩⟩⟩⟩⟩⟩⟩
theorem tz_f_5_7 : tm_okf 5 (7, 5, 0) := ⟨RX5, TX5, 4, rfl, by decide, Or.inl (tm_in1 (i := 82) (by decide +kernel))⟩
theorem tz_f_5_13 : tm_okf 5 (13, 5, 1) := ⟨RX5, TX5, 4, rfl, by decide, Or.inl (tm_in1 (i := 83) (by decide +kernel))⟩
theorem tz_f_5_16 : tm_okf 5 (16, 5, 2) := ⟨RX5, TX5, 4, rfl, by decide, Or.inl (tm_in1 (i := 84) (by decide +kernel))⟩
theorem tz_f_5_20 : tm_okf 5 (20, 5, 3) := ⟨RX5, TX5, 4, rfl, by decide, Or.inl (tm_in1 (i := 85) (by decide +kernel))⟩
set_option maxRecDepth 20000 in
theorem tz_f_5 : ∀ q ∈ tf_5, tm_okf 5 q := List.forall_mem_cons.mpr ⟨tz_f_5_7, List.forall_mem_cons.mpr ⟨tz_f_5_13, List.forall_mem_cons.mpr ⟨tz_f_5_16, List.forall_mem_cons.mpr ⟨tz_f_5_20, fun _ h => absurd h List.not_mem_nil⟩⟩⟩⟩
theorem tz_f_6_12 : tm_okf 6 (12, 6, 0) := ⟨RX6, TX6, 7, rfl, by decide, Or.inl (tm_in1 (i := 168) (by decide +kernel))⟩
theorem tz_f_6_18 : tm_okf 6 (18, 6, 1) := ⟨RX6, TX6, 7, rfl, by decide, Or.inl (tm_in1 (i := 169) (by decide +kernel))⟩
theorem tz_f_6_22 : tm_okf 6 (22, 6, 2) := ⟨RX6, TX6, 7, rfl, by decide, Or.inl (tm_in1 (i := 170) (by decide +kernel))⟩
theorem tz_f_6_26 : tm_okf 6 (26, 6, 4) := ⟨RX6, TX6, 7, rfl, by decide, Or.inl (tm_in1 (i := 172) (by decide +kernel))⟩
theorem tz_f_6_35 : tm_okf 6 (35, 6, 3) := ⟨RX6, TX6, 7, rfl, by decide, Or.inl (tm_in1 (i := 171) (by decide +kernel))⟩
theorem tz_f_6_39 : tm_okf 6 (39, 6, 6) := ⟨RX6, TX6, 7, rfl, by decide, Or.inl (tm_in1 (i := 174) (by decide +kernel))⟩
theorem tz_f_6_70 : tm_okf 6 (70, 3, 0) := ⟨RX3, TX3, 9, rfl, by decide, Or.inl (tm_in1 (i := 98) (by decide +kernel))⟩
theorem tz_f_6_79 : tm_okf 6 (79, 3, 1) := ⟨RX3, TX3, 9, rfl, by decide, Or.inl (tm_in1 (i := 102) (by decide +kernel))⟩
theorem tz_f_6_82 : tm_okf 6 (82, 3, 2) := ⟨RX3, TX3, 9, rfl, by decide, Or.inl (tm_in1 (i := 106) (by decide +kernel))⟩
theorem tz_f_6_114 : tm_okf 6 (114, 3, 3) := ⟨RX3, TX3, 9, rfl, by decide, Or.inl (tm_in1 (i := 108) (by decide +kernel))⟩
theorem tz_f_6_122 : tm_okf 6 (122, 3, 4) := ⟨RX3, TX3, 9, rfl, by decide, Or.inl (tm_in1 (i := 111) (by decide +kernel))⟩
theorem tz_f_6_130 : tm_okf 6 (130, 3, 5) := ⟨RX3, TX3, 9, rfl, by decide, Or.inl (tm_in1 (i := 114) (by decide +kernel))⟩
theorem tz_f_6_138 : tm_okf 6 (138, 3, 6) := ⟨RX3, TX3, 9, rfl, by decide, Or.inl (tm_in1 (i := 117) (by decide +kernel))⟩
theorem tz_f_6_185 : tm_okf 6 (185, 6, 5) := ⟨RX6, TX6, 7, rfl, by decide, Or.inl (tm_in1 (i := 173) (by decide +kernel))⟩
set_option maxRecDepth 20000 in
theorem tz_f_6 : ∀ q ∈ tf_6, tm_okf 6 q := List.forall_mem_cons.mpr ⟨tz_f_6_12, List.forall_mem_cons.mpr ⟨tz_f_6_18, List.forall_mem_cons.mpr ⟨tz_f_6_22, List.forall_mem_cons.mpr ⟨tz_f_6_26, List.forall_mem_cons.mpr ⟨tz_f_6_35, List.forall_mem_cons.mpr ⟨tz_f_6_39, List.forall_mem_cons.mpr ⟨tz_f_6_70, List.forall_mem_cons.mpr ⟨tz_f_6_79, List.forall_mem_cons.mpr ⟨tz_f_6_82, List.forall_mem_cons.mpr ⟨tz_f_6_114, List.forall_mem_cons.mpr ⟨tz_f_6_122, List.forall_mem_cons.mpr ⟨tz_f_6_130, List.forall_mem_cons.mpr ⟨tz_f_6_138, List.forall_mem_cons.mpr ⟨tz_f_6_185, fun _ h => absurd h List.not_mem_nil⟩⟩⟩⟩⟩⟩⟩⟩⟩⟩⟩⟩⟩⟩
theorem tz_f_7_7 : tm_okf 7 (7, 7, 0) := ⟨RX7, TX7, 5, rfl, by decide, Or.inl (tm_in1 (i := 152) (by decide +kernel))⟩
theorem tz_f_7_19 : tm_okf 7 (19, 7, 1) := ⟨RX7, TX7, 5, rfl, by decide, Or.inl (tm_in1 (i := 153) (by decide +kernel))⟩
theorem tz_f_7_23 : tm_okf 7 (23, 7, 3) := ⟨RX7, TX7, 5, rfl, by decide, Or.inl (tm_in1 (i := 155) (by decide +kernel))⟩
theorem tz_f_7_29 : tm_okf 7 (29, 7, 4) := ⟨RX7, TX7, 5, rfl, by decide, Or.inl (tm_in1 (i := 156) (by decide +kernel))⟩
theorem tz_f_7_32 : tm_okf 7 (32, 7, 2) := ⟨RX7, TX7, 5, rfl, by decide, Or.inl (tm_in1 (i := 154) (by decide +kernel))⟩
set_option maxRecDepth 20000 in
theorem tz_f_7 : ∀ q ∈ tf_7, tm_okf 7 q := List.forall_mem_cons.mpr ⟨tz_f_7_7, List.forall_mem_cons.mpr ⟨tz_f_7_19, List.forall_mem_cons.mpr ⟨tz_f_7_23, List.forall_mem_cons.mpr ⟨tz_f_7_29, List.forall_mem_cons.mpr ⟨tz_f_7_32, fun _ h => absurd h List.not_mem_nil⟩⟩⟩⟩⟩
theorem tz_f_8_11 : tm_okf 8 (11, 8, 1) := ⟨RX8, TX8, 3, rfl, by decide, Or.inl (tm_in1 (i := 281) (by decide +kernel))⟩
theorem tz_f_8_20 : tm_okf 8 (20, 8, 0) := ⟨RX8, TX8, 3, rfl, by decide, Or.inl (tm_in1 (i := 280) (by decide +kernel))⟩
theorem tz_f_8_24 : tm_okf 8 (24, 8, 2) := ⟨RX8, TX8, 3, rfl, by decide, Or.inl (tm_in1 (i := 282) (by decide +kernel))⟩
theorem tz_f_8_46 : tm_okf 8 (46, 3, 1) := ⟨RX3, TX3, 9, rfl, by decide, Or.inl (tm_in1 (i := 101) (by decide +kernel))⟩
set_option maxRecDepth 20000 in
theorem tz_f_8 : ∀ q ∈ tf_8, tm_okf 8 q := List.forall_mem_cons.mpr ⟨tz_f_8_11, List.forall_mem_cons.mpr ⟨tz_f_8_20, List.forall_mem_cons.mpr ⟨tz_f_8_24, List.forall_mem_cons.mpr ⟨tz_f_8_46, fun _ h => absurd h List.not_mem_nil⟩⟩⟩⟩
theorem tz_f_9_9 : tm_okf 9 (9, 9, 0) := ⟨RX9, TX9, 12, rfl, by decide, Or.inl (tm_in1 (i := 290) (by decide +kernel))⟩
theorem tz_f_9_16 : tm_okf 9 (16, 9, 1) := ⟨RX9, TX9, 12, rfl, by decide, Or.inl (tm_in1 (i := 291) (by decide +kernel))⟩
theorem tz_f_9_23 : tm_okf 9 (23, 9, 2) := ⟨RX9, TX9, 12, rfl, by decide, Or.inl (tm_in1 (i := 292) (by decide +kernel))⟩
theorem tz_f_9_30 : tm_okf 9 (30, 9, 3) := ⟨RX9, TX9, 12, rfl, by decide, Or.inl (tm_in1 (i := 293) (by decide +kernel))⟩
theorem tz_f_9_34 : tm_okf 9 (34, 9, 4) := ⟨RX9, TX9, 12, rfl, by decide, Or.inl (tm_in1 (i := 294) (by decide +kernel))⟩
theorem tz_f_9_42 : tm_okf 9 (42, 9, 5) := ⟨RX9, TX9, 12, rfl, by decide, Or.inl (tm_in1 (i := 295) (by decide +kernel))⟩
theorem tz_f_9_49 : tm_okf 9 (49, 9, 6) := ⟨RX9, TX9, 12, rfl, by decide, Or.inl (tm_in1 (i := 296) (by decide +kernel))⟩
theorem tz_f_9_56 : tm_okf 9 (56, 9, 7) := ⟨RX9, TX9, 12, rfl, by decide, Or.inl (tm_in1 (i := 297) (by decide +kernel))⟩
theorem tz_f_9_60 : tm_okf 9 (60, 9, 9) := ⟨RX9, TX9, 12, rfl, by decide, Or.inl (tm_in1 (i := 299) (by decide +kernel))⟩
theorem tz_f_9_80 : tm_okf 9 (80, 9, 10) := ⟨RX9, TX9, 12, rfl, by decide, Or.inl (tm_in1 (i := 300) (by decide +kernel))⟩
theorem tz_f_9_83 : tm_okf 9 (83, 9, 8) := ⟨RX9, TX9, 12, rfl, by decide, Or.inl (tm_in1 (i := 298) (by decide +kernel))⟩
theorem tz_f_9_98 : tm_okf 9 (98, 3, 2) := ⟨RX3, TX3, 9, rfl, by decide, Or.inl (tm_in1 (i := 105) (by decide +kernel))⟩
theorem tz_f_9_111 : tm_okf 9 (111, 9, 11) := ⟨RX9, TX9, 12, rfl, by decide, Or.inl (tm_in1 (i := 301) (by decide +kernel))⟩
theorem tz_f_9_131 : tm_okf 9 (131, 0, 0) := ⟨RX0, TX0, 4, rfl, by decide, Or.inl (tm_in1 (i := 259) (by decide +kernel))⟩
theorem tz_f_9_254 : tm_okf 9 (254, 3, 4) := ⟨RX3, TX3, 9, rfl, by decide, Or.inl (tm_in1 (i := 112) (by decide +kernel))⟩
theorem tz_f_9_270 : tm_okf 9 (270, 3, 6) := ⟨RX3, TX3, 9, rfl, by decide, Or.inl (tm_in1 (i := 118) (by decide +kernel))⟩
theorem tz_f_9_326 : tm_okf 9 (326, 3, 3) := ⟨RX3, TX3, 9, rfl, by decide, Or.inl (tm_in1 (i := 109) (by decide +kernel))⟩
theorem tz_f_9_329 : tm_okf 9 (329, 3, 5) := ⟨RX3, TX3, 9, rfl, by decide, Or.inl (tm_in1 (i := 115) (by decide +kernel))⟩
set_option maxRecDepth 20000 in
theorem tz_f_9 : ∀ q ∈ tf_9, tm_okf 9 q := List.forall_mem_cons.mpr ⟨tz_f_9_9, List.forall_mem_cons.mpr ⟨tz_f_9_16, List.forall_mem_cons.mpr ⟨tz_f_9_23, List.forall_mem_cons.mpr ⟨tz_f_9_30, List.forall_mem_cons.mpr ⟨tz_f_9_34, List.forall_mem_cons.mpr ⟨tz_f_9_42, List.forall_mem_cons.mpr ⟨tz_f_9_49, List.forall_mem_cons.mpr ⟨tz_f_9_56, List.forall_mem_cons.mpr ⟨tz_f_9_60, List.forall_mem_cons.mpr ⟨tz_f_9_80, List.forall_mem_cons.mpr ⟨tz_f_9_83, List.forall_mem_cons.mpr ⟨tz_f_9_98, List.forall_mem_cons.mpr ⟨tz_f_9_111, List.forall_mem_cons.mpr ⟨tz_f_9_131, List.forall_mem_cons.mpr ⟨tz_f_9_254, List.forall_mem_cons.mpr ⟨tz_f_9_270, List.forall_mem_cons.mpr ⟨tz_f_9_326, List.forall_mem_cons.mpr ⟨tz_f_9_329, fun _ h => absurd h List.not_mem_nil⟩⟩⟩⟩⟩⟩⟩⟩⟩⟩⟩⟩⟩⟩⟩⟩⟩⟩
theorem tz_f_10_9 : tm_okf 10 (9, 10, 2) := ⟨RX10, TX10, 26, rfl, by decide, Or.inl (tm_in1 (i := 1350) (by decide +kernel))⟩
theorem tz_f_10_15 : tm_okf 10 (15, 10, 13) := ⟨RX10, TX10, 26, rfl, by decide, Or.inl (tm_in1 (i := 1363) (by decide +kernel))⟩
theorem tz_f_10_19 : tm_okf 10 (19, 10, 14) := ⟨RX10, TX10, 26, rfl, by decide, Or.inl (tm_in1 (i := 1365) (by decide +kernel))⟩
theorem tz_f_10_22 : tm_okf 10 (22, 10, 15) := ⟨RX10, TX10, 26, rfl, by decide, Or.inl (tm_in1 (i := 1367) (by decide +kernel))⟩
theorem tz_f_10_25 : tm_okf 10 (25, 10, 16) := ⟨RX10, TX10, 26, rfl, by decide, Or.inl (tm_in1 (i := 1369) (by decide +kernel))⟩
theorem tz_f_10_28 : tm_okf 10 (28, 10, 17) := ⟨RX10, TX10, 26, rfl, by decide, Or.inl (tm_in1 (i := 1371) (by decide +kernel))⟩
theorem tz_f_10_31 : tm_okf 10 (31, 10, 18) := ⟨RX10, TX10, 26, rfl, by decide, Or.inl (tm_in1 (i := 1373) (by decide +kernel))⟩
theorem tz_f_10_34 : tm_okf 10 (34, 10, 19) := ⟨RX10, TX10, 26, rfl, by decide, Or.inl (tm_in1 (i := 1375) (by decide +kernel))⟩
theorem tz_f_10_37 : tm_okf 10 (37, 10, 20) := ⟨RX10, TX10, 26, rfl, by decide, Or.inl (tm_in1 (i := 1377) (by decide +kernel))⟩
theorem tz_f_10_40 : tm_okf 10 (40, 10, 21) := ⟨RX10, TX10, 26, rfl, by decide, Or.inl (tm_in1 (i := 1379) (by decide +kernel))⟩
theorem tz_f_10_43 : tm_okf 10 (43, 10, 22) := ⟨RX10, TX10, 26, rfl, by decide, Or.inl (tm_in1 (i := 1381) (by decide +kernel))⟩
theorem tz_f_10_46 : tm_okf 10 (46, 10, 23) := ⟨RX10, TX10, 26, rfl, by decide, Or.inl (tm_in1 (i := 1383) (by decide +kernel))⟩
theorem tz_f_10_49 : tm_okf 10 (49, 10, 24) := ⟨RX10, TX10, 26, rfl, by decide, Or.inl (tm_in1 (i := 1385) (by decide +kernel))⟩
theorem tz_f_10_53 : tm_okf 10 (53, 10, 25) := ⟨RX10, TX10, 26, rfl, by decide, Or.inl (tm_in1 (i := 1387) (by decide +kernel))⟩
theorem tz_f_10_56 : tm_okf 10 (56, 10, 12) := ⟨RX10, TX10, 26, rfl, by decide, Or.inl (tm_in1 (i := 1361) (by decide +kernel))⟩
theorem tz_f_10_59 : tm_okf 10 (59, 10, 1) := ⟨RX10, TX10, 26, rfl, by decide, Or.inl (tm_in1 (i := 1348) (by decide +kernel))⟩
set_option maxRecDepth 20000 in
theorem tz_f_10 : ∀ q ∈ tf_10, tm_okf 10 q := List.forall_mem_cons.mpr ⟨tz_f_10_9, List.forall_mem_cons.mpr ⟨tz_f_10_15, List.forall_mem_cons.mpr ⟨tz_f_10_19, List.forall_mem_cons.mpr ⟨tz_f_10_22, List.forall_mem_cons.mpr ⟨tz_f_10_25, List.forall_mem_cons.mpr ⟨tz_f_10_28, List.forall_mem_cons.mpr ⟨tz_f_10_31, List.forall_mem_cons.mpr ⟨tz_f_10_34, List.forall_mem_cons.mpr ⟨tz_f_10_37, List.forall_mem_cons.mpr ⟨tz_f_10_40, List.forall_mem_cons.mpr ⟨tz_f_10_43, List.forall_mem_cons.mpr ⟨tz_f_10_46, List.forall_mem_cons.mpr ⟨tz_f_10_49, List.forall_mem_cons.mpr ⟨tz_f_10_53, List.forall_mem_cons.mpr ⟨tz_f_10_56, List.forall_mem_cons.mpr ⟨tz_f_10_59, fun _ h => absurd h List.not_mem_nil⟩⟩⟩⟩⟩⟩⟩⟩⟩⟩⟩⟩⟩⟩⟩⟩
theorem tz_f_11_9 : tm_okf 11 (9, 11, 2) := ⟨RX11, TX11, 35, rfl, by decide, Or.inl (tm_in1 (i := 1221) (by decide +kernel))⟩
theorem tz_f_11_13 : tm_okf 11 (13, 11, 5) := ⟨RX11, TX11, 35, rfl, by decide, Or.inl (tm_in1 (i := 1224) (by decide +kernel))⟩
theorem tz_f_11_17 : tm_okf 11 (17, 11, 16) := ⟨RX11, TX11, 35, rfl, by decide, Or.inl (tm_in1 (i := 1235) (by decide +kernel))⟩
theorem tz_f_11_21 : tm_okf 11 (21, 11, 17) := ⟨RX11, TX11, 35, rfl, by decide, Or.inl (tm_in1 (i := 1236) (by decide +kernel))⟩
theorem tz_f_11_24 : tm_okf 11 (24, 11, 18) := ⟨RX11, TX11, 35, rfl, by decide, Or.inl (tm_in1 (i := 1237) (by decide +kernel))⟩
theorem tz_f_11_27 : tm_okf 11 (27, 11, 19) := ⟨RX11, TX11, 35, rfl, by decide, Or.inl (tm_in1 (i := 1238) (by decide +kernel))⟩
theorem tz_f_11_30 : tm_okf 11 (30, 11, 20) := ⟨RX11, TX11, 35, rfl, by decide, Or.inl (tm_in1 (i := 1239) (by decide +kernel))⟩
theorem tz_f_11_33 : tm_okf 11 (33, 11, 23) := ⟨RX11, TX11, 35, rfl, by decide, Or.inl (tm_in1 (i := 1242) (by decide +kernel))⟩
theorem tz_f_11_36 : tm_okf 11 (36, 11, 27) := ⟨RX11, TX11, 35, rfl, by decide, Or.inl (tm_in1 (i := 1246) (by decide +kernel))⟩
theorem tz_f_11_39 : tm_okf 11 (39, 11, 28) := ⟨RX11, TX11, 35, rfl, by decide, Or.inl (tm_in1 (i := 1247) (by decide +kernel))⟩
theorem tz_f_11_42 : tm_okf 11 (42, 11, 29) := ⟨RX11, TX11, 35, rfl, by decide, Or.inl (tm_in1 (i := 1248) (by decide +kernel))⟩
theorem tz_f_11_45 : tm_okf 11 (45, 11, 30) := ⟨RX11, TX11, 35, rfl, by decide, Or.inl (tm_in1 (i := 1249) (by decide +kernel))⟩
theorem tz_f_11_48 : tm_okf 11 (48, 11, 31) := ⟨RX11, TX11, 35, rfl, by decide, Or.inl (tm_in1 (i := 1250) (by decide +kernel))⟩
theorem tz_f_11_51 : tm_okf 11 (51, 11, 32) := ⟨RX11, TX11, 35, rfl, by decide, Or.inl (tm_in1 (i := 1251) (by decide +kernel))⟩
theorem tz_f_11_54 : tm_okf 11 (54, 11, 34) := ⟨RX11, TX11, 35, rfl, by decide, Or.inl (tm_in1 (i := 1253) (by decide +kernel))⟩
theorem tz_f_11_57 : tm_okf 11 (57, 11, 0) := ⟨RX11, TX11, 35, rfl, by decide, Or.inl (tm_in1 (i := 1219) (by decide +kernel))⟩
theorem tz_f_11_60 : tm_okf 11 (60, 11, 1) := ⟨RX11, TX11, 35, rfl, by decide, Or.inl (tm_in1 (i := 1220) (by decide +kernel))⟩
theorem tz_f_11_66 : tm_okf 11 (66, 11, 7) := ⟨RX11, TX11, 35, rfl, by decide, Or.inl (tm_in1 (i := 1226) (by decide +kernel))⟩
theorem tz_f_11_81 : tm_okf 11 (81, 11, 9) := ⟨RX11, TX11, 35, rfl, by decide, Or.inl (tm_in1 (i := 1228) (by decide +kernel))⟩
theorem tz_f_11_84 : tm_okf 11 (84, 11, 8) := ⟨RX11, TX11, 35, rfl, by decide, Or.inl (tm_in1 (i := 1227) (by decide +kernel))⟩
theorem tz_f_11_91 : tm_okf 11 (91, 11, 10) := ⟨RX11, TX11, 35, rfl, by decide, Or.inl (tm_in1 (i := 1229) (by decide +kernel))⟩
theorem tz_f_11_94 : tm_okf 11 (94, 11, 11) := ⟨RX11, TX11, 35, rfl, by decide, Or.inl (tm_in1 (i := 1230) (by decide +kernel))⟩
theorem tz_f_11_101 : tm_okf 11 (101, 11, 15) := ⟨RX11, TX11, 35, rfl, by decide, Or.inl (tm_in1 (i := 1234) (by decide +kernel))⟩
theorem tz_f_11_108 : tm_okf 11 (108, 11, 12) := ⟨RX11, TX11, 35, rfl, by decide, Or.inl (tm_in1 (i := 1231) (by decide +kernel))⟩
theorem tz_f_11_115 : tm_okf 11 (115, 11, 13) := ⟨RX11, TX11, 35, rfl, by decide, Or.inl (tm_in1 (i := 1232) (by decide +kernel))⟩
theorem tz_f_11_118 : tm_okf 11 (118, 11, 14) := ⟨RX11, TX11, 35, rfl, by decide, Or.inl (tm_in1 (i := 1233) (by decide +kernel))⟩
theorem tz_f_11_164 : tm_okf 11 (164, 11, 4) := ⟨RX11, TX11, 35, rfl, by decide, Or.inl (tm_in1 (i := 1223) (by decide +kernel))⟩
theorem tz_f_11_168 : tm_okf 11 (168, 10, 0) := ⟨RX10, TX10, 26, rfl, by decide, Or.inr ⟨RX11, tm_in1 (i := 1347) (by decide +kernel), by decide⟩⟩
theorem tz_f_11_172 : tm_okf 11 (172, 10, 2) := ⟨RX10, TX10, 26, rfl, by decide, Or.inr ⟨RX11, tm_in1 (i := 1351) (by decide +kernel), by decide⟩⟩
theorem tz_f_11_174 : tm_okf 11 (174, 10, 7) := ⟨RX10, TX10, 26, rfl, by decide, Or.inr ⟨RX11, tm_in1 (i := 1356) (by decide +kernel), by decide⟩⟩
theorem tz_f_11_205 : tm_okf 11 (205, 10, 1) := ⟨RX10, TX10, 26, rfl, by decide, Or.inr ⟨RX11, tm_in1 (i := 1349) (by decide +kernel), by decide⟩⟩
theorem tz_f_11_209 : tm_okf 11 (209, 10, 3) := ⟨RX10, TX10, 26, rfl, by decide, Or.inr ⟨RX11, tm_in1 (i := 1352) (by decide +kernel), by decide⟩⟩
theorem tz_f_11_213 : tm_okf 11 (213, 10, 4) := ⟨RX10, TX10, 26, rfl, by decide, Or.inr ⟨RX11, tm_in1 (i := 1353) (by decide +kernel), by decide⟩⟩
theorem tz_f_11_217 : tm_okf 11 (217, 10, 5) := ⟨RX10, TX10, 26, rfl, by decide, Or.inr ⟨RX11, tm_in1 (i := 1354) (by decide +kernel), by decide⟩⟩
theorem tz_f_11_221 : tm_okf 11 (221, 10, 6) := ⟨RX10, TX10, 26, rfl, by decide, Or.inr ⟨RX11, tm_in1 (i := 1355) (by decide +kernel), by decide⟩⟩
theorem tz_f_11_231 : tm_okf 11 (231, 10, 24) := ⟨RX10, TX10, 26, rfl, by decide, Or.inr ⟨RX11, tm_in1 (i := 1386) (by decide +kernel), by decide⟩⟩
theorem tz_f_11_235 : tm_okf 11 (235, 10, 12) := ⟨RX10, TX10, 26, rfl, by decide, Or.inr ⟨RX11, tm_in1 (i := 1362) (by decide +kernel), by decide⟩⟩
theorem tz_f_11_238 : tm_okf 11 (238, 10, 25) := ⟨RX10, TX10, 26, rfl, by decide, Or.inr ⟨RX11, tm_in1 (i := 1388) (by decide +kernel), by decide⟩⟩
theorem tz_f_11_251 : tm_okf 11 (251, 10, 13) := ⟨RX10, TX10, 26, rfl, by decide, Or.inr ⟨RX11, tm_in1 (i := 1364) (by decide +kernel), by decide⟩⟩
theorem tz_f_11_253 : tm_okf 11 (253, 10, 14) := ⟨RX10, TX10, 26, rfl, by decide, Or.inr ⟨RX11, tm_in1 (i := 1366) (by decide +kernel), by decide⟩⟩
theorem tz_f_11_255 : tm_okf 11 (255, 10, 15) := ⟨RX10, TX10, 26, rfl, by decide, Or.inr ⟨RX11, tm_in1 (i := 1368) (by decide +kernel), by decide⟩⟩
theorem tz_f_11_257 : tm_okf 11 (257, 10, 8) := ⟨RX10, TX10, 26, rfl, by decide, Or.inr ⟨RX11, tm_in1 (i := 1357) (by decide +kernel), by decide⟩⟩
theorem tz_f_11_264 : tm_okf 11 (264, 10, 16) := ⟨RX10, TX10, 26, rfl, by decide, Or.inr ⟨RX11, tm_in1 (i := 1370) (by decide +kernel), by decide⟩⟩
theorem tz_f_11_267 : tm_okf 11 (267, 10, 17) := ⟨RX10, TX10, 26, rfl, by decide, Or.inr ⟨RX11, tm_in1 (i := 1372) (by decide +kernel), by decide⟩⟩
theorem tz_f_11_269 : tm_okf 11 (269, 10, 18) := ⟨RX10, TX10, 26, rfl, by decide, Or.inr ⟨RX11, tm_in1 (i := 1374) (by decide +kernel), by decide⟩⟩
theorem tz_f_11_271 : tm_okf 11 (271, 10, 9) := ⟨RX10, TX10, 26, rfl, by decide, Or.inr ⟨RX11, tm_in1 (i := 1358) (by decide +kernel), by decide⟩⟩
theorem tz_f_11_276 : tm_okf 11 (276, 10, 19) := ⟨RX10, TX10, 26, rfl, by decide, Or.inr ⟨RX11, tm_in1 (i := 1376) (by decide +kernel), by decide⟩⟩
theorem tz_f_11_279 : tm_okf 11 (279, 10, 20) := ⟨RX10, TX10, 26, rfl, by decide, Or.inr ⟨RX11, tm_in1 (i := 1378) (by decide +kernel), by decide⟩⟩
theorem tz_f_11_282 : tm_okf 11 (282, 10, 10) := ⟨RX10, TX10, 26, rfl, by decide, Or.inr ⟨RX11, tm_in1 (i := 1359) (by decide +kernel), by decide⟩⟩
theorem tz_f_11_292 : tm_okf 11 (292, 10, 21) := ⟨RX10, TX10, 26, rfl, by decide, Or.inr ⟨RX11, tm_in1 (i := 1380) (by decide +kernel), by decide⟩⟩
theorem tz_f_11_294 : tm_okf 11 (294, 10, 22) := ⟨RX10, TX10, 26, rfl, by decide, Or.inr ⟨RX11, tm_in1 (i := 1382) (by decide +kernel), by decide⟩⟩
theorem tz_f_11_296 : tm_okf 11 (296, 10, 11) := ⟨RX10, TX10, 26, rfl, by decide, Or.inr ⟨RX11, tm_in1 (i := 1360) (by decide +kernel), by decide⟩⟩
theorem tz_f_11_299 : tm_okf 11 (299, 10, 23) := ⟨RX10, TX10, 26, rfl, by decide, Or.inr ⟨RX11, tm_in1 (i := 1384) (by decide +kernel), by decide⟩⟩
theorem tz_f_11_302 : tm_okf 11 (302, 11, 6) := ⟨RX11, TX11, 35, rfl, by decide, Or.inl (tm_in1 (i := 1225) (by decide +kernel))⟩
theorem tz_f_11_312 : tm_okf 11 (312, 11, 3) := ⟨RX11, TX11, 35, rfl, by decide, Or.inl (tm_in1 (i := 1222) (by decide +kernel))⟩
theorem tz_f_11_315 : tm_okf 11 (315, 11, 33) := ⟨RX11, TX11, 35, rfl, by decide, Or.inl (tm_in1 (i := 1252) (by decide +kernel))⟩
theorem tz_f_11_334 : tm_okf 11 (334, 11, 24) := ⟨RX11, TX11, 35, rfl, by decide, Or.inl (tm_in1 (i := 1243) (by decide +kernel))⟩
theorem tz_f_11_357 : tm_okf 11 (357, 11, 21) := ⟨RX11, TX11, 35, rfl, by decide, Or.inl (tm_in1 (i := 1240) (by decide +kernel))⟩
theorem tz_f_11_360 : tm_okf 11 (360, 11, 22) := ⟨RX11, TX11, 35, rfl, by decide, Or.inl (tm_in1 (i := 1241) (by decide +kernel))⟩
theorem tz_f_11_363 : tm_okf 11 (363, 11, 25) := ⟨RX11, TX11, 35, rfl, by decide, Or.inl (tm_in1 (i := 1244) (by decide +kernel))⟩
theorem tz_f_11_366 : tm_okf 11 (366, 11, 26) := ⟨RX11, TX11, 35, rfl, by decide, Or.inl (tm_in1 (i := 1245) (by decide +kernel))⟩
set_option maxRecDepth 20000 in
theorem tz_f_11 : ∀ q ∈ tf_11, tm_okf 11 q := List.forall_mem_cons.mpr ⟨tz_f_11_9, List.forall_mem_cons.mpr ⟨tz_f_11_13, List.forall_mem_cons.mpr ⟨tz_f_11_17, List.forall_mem_cons.mpr ⟨tz_f_11_21, List.forall_mem_cons.mpr ⟨tz_f_11_24, List.forall_mem_cons.mpr ⟨tz_f_11_27, List.forall_mem_cons.mpr ⟨tz_f_11_30, List.forall_mem_cons.mpr ⟨tz_f_11_33, List.forall_mem_cons.mpr ⟨tz_f_11_36, List.forall_mem_cons.mpr ⟨tz_f_11_39, List.forall_mem_cons.mpr ⟨tz_f_11_42, List.forall_mem_cons.mpr ⟨tz_f_11_45, List.forall_mem_cons.mpr ⟨tz_f_11_48, List.forall_mem_cons.mpr ⟨tz_f_11_51, List.forall_mem_cons.mpr ⟨tz_f_11_54, List.forall_mem_cons.mpr ⟨tz_f_11_57, List.forall_mem_cons.mpr ⟨tz_f_11_60, List.forall_mem_cons.mpr ⟨tz_f_11_66, List.forall_mem_cons.mpr ⟨tz_f_11_81, List.forall_mem_cons.mpr ⟨tz_f_11_84, List.forall_mem_cons.mpr ⟨tz_f_11_91, List.forall_mem_cons.mpr ⟨tz_f_11_94, List.forall_mem_cons.mpr ⟨tz_f_11_101, List.forall_mem_cons.mpr ⟨tz_f_11_108, List.forall_mem_cons.mpr ⟨tz_f_11_115, List.forall_mem_cons.mpr ⟨tz_f_11_118, List.forall_mem_cons.mpr ⟨tz_f_11_164, List.forall_mem_cons.mpr ⟨tz_f_11_168, List.forall_mem_cons.mpr ⟨tz_f_11_172, List.forall_mem_cons.mpr ⟨tz_f_11_174, List.forall_mem_cons.mpr ⟨tz_f_11_205, List.forall_mem_cons.mpr ⟨tz_f_11_209, List.forall_mem_cons.mpr ⟨tz_f_11_213, List.forall_mem_cons.mpr ⟨tz_f_11_217, List.forall_mem_cons.mpr ⟨tz_f_11_221, List.forall_mem_cons.mpr ⟨tz_f_11_231, List.forall_mem_cons.mpr ⟨tz_f_11_235, List.forall_mem_cons.mpr ⟨tz_f_11_238, List.forall_mem_cons.mpr ⟨tz_f_11_251, List.forall_mem_cons.mpr ⟨tz_f_11_253, List.forall_mem_cons.mpr ⟨tz_f_11_255, List.forall_mem_cons.mpr ⟨tz_f_11_257, List.forall_mem_cons.mpr ⟨tz_f_11_264, List.forall_mem_cons.mpr ⟨tz_f_11_267, List.forall_mem_cons.mpr ⟨tz_f_11_269, List.forall_mem_cons.mpr ⟨tz_f_11_271, List.forall_mem_cons.mpr ⟨tz_f_11_276, List.forall_mem_cons.mpr ⟨tz_f_11_279, List.forall_mem_cons.mpr ⟨tz_f_11_282, List.forall_mem_cons.mpr ⟨tz_f_11_292, List.forall_mem_cons.mpr ⟨tz_f_11_294, List.forall_mem_cons.mpr ⟨tz_f_11_296, List.forall_mem_cons.mpr ⟨tz_f_11_299, List.forall_mem_cons.mpr ⟨tz_f_11_302, List.forall_mem_cons.mpr ⟨tz_f_11_312, List.forall_mem_cons.mpr ⟨tz_f_11_315, List.forall_mem_cons.mpr ⟨tz_f_11_334, List.forall_mem_cons.mpr ⟨tz_f_11_357, List.forall_mem_cons.mpr ⟨tz_f_11_360, List.forall_mem_cons.mpr ⟨tz_f_11_363, List.forall_mem_cons.mpr ⟨tz_f_11_366, fun _ h => absurd h List.not_mem_nil⟩⟩⟩⟩⟩⟩⟩⟩⟩⟩⟩⟩⟩⟩⟩⟩⟩⟩⟩⟩⟩⟩⟩⟩⟩⟩⟩⟩⟩⟩⟩⟩⟩⟩⟩⟩⟩⟩⟩⟩⟩⟩⟩⟩⟩⟩⟩⟩⟩⟩⟩⟩⟩⟩⟩⟩⟩⟩⟩⟩⟩
set_option maxRecDepth 20000 in
theorem tz_f_21 : ∀ q ∈ tf_21, tm_okf 21 q := fun _ h => absurd h List.not_mem_nil
set_option maxRecDepth 20000 in
theorem tz_f_22 : ∀ q ∈ tf_22, tm_okf 22 q := fun _ h => absurd h List.not_mem_nil
theorem tm_in0 {w : Jvm.Cond} {i : Nat} (h : (k2_sels lw_privs)[i]? = some w) : w ∈ lw_tbl := List.mem_append_left _ (List.mem_of_getElem? h)
theorem tz_mX9_init : tm_OkM tm_G mX9_init := ⟨rfl, by decide +kernel, tm_in1 (i := 29) (by decide +kernel), tm_in1 (i := 1) (by decide +kernel), by decide +kernel, by decide +kernel, fun h => absurd h (by decide), fun h => absurd h (by decide), fun _ => ⟨rfl, tm_in1 (i := 28) (by decide +kernel), rfl⟩, by decide⟩
theorem tz_mX1_init : tm_OkM tm_G mX1_init := ⟨rfl, by decide +kernel, tm_in1 (i := 37) (by decide +kernel), tm_in1 (i := 2) (by decide +kernel), by decide +kernel, by decide +kernel, fun h => absurd h (by decide), fun h => absurd h (by decide), fun _ => ⟨rfl, tm_in1 (i := 36) (by decide +kernel), rfl⟩, by decide⟩
theorem tz_mX2_init : tm_OkM tm_G mX2_init := ⟨rfl, by decide +kernel, tm_in1 (i := 55) (by decide +kernel), tm_in1 (i := 3) (by decide +kernel), by decide +kernel, by decide +kernel, fun h => absurd h (by decide), fun h => absurd h (by decide), fun _ => ⟨rfl, tm_in1 (i := 54) (by decide +kernel), rfl⟩, by decide⟩
theorem tz_mX3_init : tm_OkM tm_G mX3_init := ⟨rfl, by decide +kernel, tm_in1 (i := 74) (by decide +kernel), tm_in1 (i := 4) (by decide +kernel), by decide +kernel, by decide +kernel, fun h => absurd h (by decide), fun h => absurd h (by decide), fun _ => ⟨rfl, tm_in1 (i := 73) (by decide +kernel), rfl⟩, by decide⟩
theorem tz_mX5_init : tm_OkM tm_G mX5_init := ⟨rfl, by decide +kernel, tm_in1 (i := 80) (by decide +kernel), tm_in1 (i := 5) (by decide +kernel), by decide +kernel, by decide +kernel, fun h => absurd h (by decide), fun h => absurd h (by decide), fun _ => ⟨rfl, tm_in1 (i := 79) (by decide +kernel), rfl⟩, by decide⟩
theorem tz_mX6_init : tm_OkM tm_G mX6_init := ⟨rfl, by decide +kernel, tm_in1 (i := 144) (by decide +kernel), tm_in1 (i := 6) (by decide +kernel), by decide +kernel, by decide +kernel, fun h => absurd h (by decide), fun h => absurd h (by decide), fun _ => ⟨rfl, tm_in1 (i := 143) (by decide +kernel), rfl⟩, by decide⟩
theorem tz_mX7_init : tm_OkM tm_G mX7_init := ⟨rfl, by decide +kernel, tm_in1 (i := 150) (by decide +kernel), tm_in1 (i := 7) (by decide +kernel), by decide +kernel, by decide +kernel, fun h => absurd h (by decide), fun h => absurd h (by decide), fun _ => ⟨rfl, tm_in1 (i := 149) (by decide +kernel), rfl⟩, by decide⟩
theorem tz_mX0_init : tm_OkM tm_G mX0_init := ⟨rfl, by decide +kernel, tm_in1 (i := 195) (by decide +kernel), tm_in1 (i := 8) (by decide +kernel), by decide +kernel, by decide +kernel, fun h => absurd h (by decide), fun h => absurd h (by decide), fun _ => ⟨rfl, tm_in1 (i := 194) (by decide +kernel), rfl⟩, by decide⟩
theorem tz_mX4_init : tm_OkM tm_G mX4_init := ⟨rfl, by decide +kernel, tm_in1 (i := 201) (by decide +kernel), tm_in1 (i := 9) (by decide +kernel), by decide +kernel, by decide +kernel, fun h => absurd h (by decide), fun h => absurd h (by decide), fun _ => ⟨rfl, tm_in1 (i := 200) (by decide +kernel), rfl⟩, by decide⟩
theorem tz_mX8_init : tm_OkM tm_G mX8_init := ⟨rfl, by decide +kernel, tm_in1 (i := 276) (by decide +kernel), tm_in1 (i := 10) (by decide +kernel), by decide +kernel, by decide +kernel, fun h => absurd h (by decide), fun h => absurd h (by decide), fun _ => ⟨rfl, tm_in1 (i := 275) (by decide +kernel), rfl⟩, by decide⟩
theorem tz_mX9_feed : tm_OkM tm_G mX9_feed := ⟨rfl, by decide +kernel, tm_in1 (i := 330) (by decide +kernel), tm_in1 (i := 1) (by decide +kernel), by decide +kernel, by decide +kernel, fun h => absurd h (by decide), fun _ => ⟨tm_in1 (i := 328) (by decide +kernel), tm_in1 (i := 329) (by decide +kernel), TX9, 12, rfl⟩, fun h => absurd h (by decide), by decide⟩
theorem tz_mX9_putNumber : tm_OkM tm_G mX9_putNumber := ⟨rfl, by decide +kernel, tm_in1 (i := 334) (by decide +kernel), tm_in1 (i := 1) (by decide +kernel), by decide +kernel, by decide +kernel, fun h => absurd h (by decide), fun _ => ⟨tm_in1 (i := 333) (by decide +kernel), tm_in0 (i := 0) (by decide +kernel), TX9, 12, rfl⟩, fun h => absurd h (by decide), by decide⟩
theorem tz_mX9_book : tm_OkM tm_G mX9_book := ⟨rfl, by decide +kernel, tm_in1 (i := 338) (by decide +kernel), tm_in1 (i := 1) (by decide +kernel), by decide +kernel, by decide +kernel, fun h => absurd h (by decide), fun _ => ⟨tm_in1 (i := 336) (by decide +kernel), tm_in1 (i := 337) (by decide +kernel), TX9, 12, rfl⟩, fun h => absurd h (by decide), by decide⟩
theorem tz_mX9_within : tm_OkM tm_G mX9_within := ⟨rfl, by decide +kernel, tm_in1 (i := 341) (by decide +kernel), tm_in1 (i := 1) (by decide +kernel), by decide +kernel, by decide +kernel, fun _ => tm_in1 (i := 340) (by decide +kernel), fun h => absurd h (by decide), fun h => absurd h (by decide), by decide⟩
theorem tz_mX9_refuse : tm_OkM tm_G mX9_refuse := ⟨rfl, by decide +kernel, tm_in1 (i := 345) (by decide +kernel), tm_in1 (i := 1) (by decide +kernel), by decide +kernel, by decide +kernel, fun h => absurd h (by decide), fun _ => ⟨tm_in1 (i := 344) (by decide +kernel), tm_in0 (i := 1) (by decide +kernel), TX9, 12, rfl⟩, fun h => absurd h (by decide), by decide⟩
theorem tz_mX6_readInto : tm_OkM tm_G mX6_readInto := ⟨rfl, by decide +kernel, tm_in1 (i := 349) (by decide +kernel), tm_in1 (i := 6) (by decide +kernel), by decide +kernel, by decide +kernel, fun h => absurd h (by decide), fun _ => ⟨tm_in1 (i := 347) (by decide +kernel), tm_in1 (i := 348) (by decide +kernel), TX6, 7, rfl⟩, fun h => absurd h (by decide), by decide⟩
theorem tz_mX3_clear : tm_OkM tm_G mX3_clear := ⟨rfl, by decide +kernel, tm_in1 (i := 353) (by decide +kernel), tm_in1 (i := 4) (by decide +kernel), by decide +kernel, by decide +kernel, fun h => absurd h (by decide), fun _ => ⟨tm_in1 (i := 351) (by decide +kernel), tm_in1 (i := 352) (by decide +kernel), TX3, 9, rfl⟩, fun h => absurd h (by decide), by decide⟩
theorem tz_mX5_clear : tm_OkM tm_G mX5_clear := ⟨rfl, by decide +kernel, tm_in1 (i := 357) (by decide +kernel), tm_in1 (i := 5) (by decide +kernel), by decide +kernel, by decide +kernel, fun h => absurd h (by decide), fun _ => ⟨tm_in1 (i := 355) (by decide +kernel), tm_in1 (i := 356) (by decide +kernel), TX5, 4, rfl⟩, fun h => absurd h (by decide), by decide⟩
theorem tz_mX7_begin : tm_OkM tm_G mX7_begin := ⟨rfl, by decide +kernel, tm_in1 (i := 361) (by decide +kernel), tm_in1 (i := 7) (by decide +kernel), by decide +kernel, by decide +kernel, fun h => absurd h (by decide), fun _ => ⟨tm_in1 (i := 359) (by decide +kernel), tm_in1 (i := 360) (by decide +kernel), TX7, 5, rfl⟩, fun h => absurd h (by decide), by decide⟩
theorem tz_mX9_kept : tm_OkM tm_G mX9_kept := ⟨rfl, by decide +kernel, tm_in1 (i := 364) (by decide +kernel), tm_in1 (i := 1) (by decide +kernel), by decide +kernel, by decide +kernel, fun _ => tm_in1 (i := 363) (by decide +kernel), fun h => absurd h (by decide), fun h => absurd h (by decide), by decide⟩
theorem tz_mX7_step : tm_OkM tm_G mX7_step := ⟨rfl, by decide +kernel, tm_in1 (i := 368) (by decide +kernel), tm_in1 (i := 7) (by decide +kernel), by decide +kernel, by decide +kernel, fun h => absurd h (by decide), fun _ => ⟨tm_in1 (i := 366) (by decide +kernel), tm_in1 (i := 367) (by decide +kernel), TX7, 5, rfl⟩, fun h => absurd h (by decide), by decide⟩
theorem tz_mX7_takeRun : tm_OkM tm_G mX7_takeRun := ⟨rfl, by decide +kernel, tm_in1 (i := 372) (by decide +kernel), tm_in1 (i := 7) (by decide +kernel), by decide +kernel, by decide +kernel, fun h => absurd h (by decide), fun _ => ⟨tm_in1 (i := 371) (by decide +kernel), tm_in0 (i := 2) (by decide +kernel), TX7, 5, rfl⟩, fun h => absurd h (by decide), by decide⟩
theorem tz_mX6_readLine : tm_OkM tm_G mX6_readLine := ⟨rfl, by decide +kernel, tm_in1 (i := 376) (by decide +kernel), tm_in1 (i := 6) (by decide +kernel), by decide +kernel, by decide +kernel, fun h => absurd h (by decide), fun _ => ⟨tm_in1 (i := 375) (by decide +kernel), tm_in0 (i := 3) (by decide +kernel), TX6, 7, rfl⟩, fun h => absurd h (by decide), by decide⟩
theorem tz_mX7_isWord : tm_OkM tm_G mX7_isWord := ⟨rfl, by decide +kernel, tm_in1 (i := 381) (by decide +kernel), tm_in1 (i := 7) (by decide +kernel), by decide +kernel, by decide +kernel, fun h => absurd h (by decide), fun _ => ⟨tm_in1 (i := 379) (by decide +kernel), tm_in1 (i := 380) (by decide +kernel), TX7, 5, rfl⟩, fun h => absurd h (by decide), by decide⟩
theorem tz_mX6_hasRoom : tm_OkM tm_G mX6_hasRoom := ⟨rfl, by decide +kernel, tm_in1 (i := 433) (by decide +kernel), tm_in1 (i := 6) (by decide +kernel), by decide +kernel, by decide +kernel, fun h => absurd h (by decide), fun _ => ⟨tm_in1 (i := 432) (by decide +kernel), tm_in0 (i := 4) (by decide +kernel), TX6, 7, rfl⟩, fun h => absurd h (by decide), by decide⟩
theorem tz_mX5_isFull : tm_OkM tm_G mX5_isFull := ⟨rfl, by decide +kernel, tm_in1 (i := 437) (by decide +kernel), tm_in1 (i := 5) (by decide +kernel), by decide +kernel, by decide +kernel, fun h => absurd h (by decide), fun _ => ⟨tm_in1 (i := 435) (by decide +kernel), tm_in1 (i := 436) (by decide +kernel), TX5, 4, rfl⟩, fun h => absurd h (by decide), by decide⟩
theorem tz_mX6_fails : tm_OkM tm_G mX6_fails := ⟨rfl, by decide +kernel, tm_in1 (i := 441) (by decide +kernel), tm_in1 (i := 6) (by decide +kernel), by decide +kernel, by decide +kernel, fun h => absurd h (by decide), fun _ => ⟨tm_in1 (i := 440) (by decide +kernel), tm_in0 (i := 5) (by decide +kernel), TX6, 7, rfl⟩, fun h => absurd h (by decide), by decide⟩
theorem tz_mX6_readBar : tm_OkM tm_G mX6_readBar := ⟨rfl, by decide +kernel, tm_in1 (i := 445) (by decide +kernel), tm_in1 (i := 6) (by decide +kernel), by decide +kernel, by decide +kernel, fun h => absurd h (by decide), fun _ => ⟨tm_in1 (i := 444) (by decide +kernel), tm_in0 (i := 6) (by decide +kernel), TX6, 7, rfl⟩, fun h => absurd h (by decide), by decide⟩
theorem tz_mX6_tells : tm_OkM tm_G mX6_tells := ⟨rfl, by decide +kernel, tm_in1 (i := 450) (by decide +kernel), tm_in1 (i := 6) (by decide +kernel), by decide +kernel, by decide +kernel, fun h => absurd h (by decide), fun _ => ⟨tm_in1 (i := 449) (by decide +kernel), tm_in0 (i := 7) (by decide +kernel), TX6, 7, rfl⟩, fun h => absurd h (by decide), by decide⟩
theorem tz_mX6_isWhole : tm_OkM tm_G mX6_isWhole := ⟨rfl, by decide +kernel, tm_in1 (i := 455) (by decide +kernel), tm_in1 (i := 6) (by decide +kernel), by decide +kernel, by decide +kernel, fun h => absurd h (by decide), fun _ => ⟨tm_in1 (i := 454) (by decide +kernel), tm_in0 (i := 8) (by decide +kernel), TX6, 7, rfl⟩, fun h => absurd h (by decide), by decide⟩
theorem tz_mX7_sort : tm_OkM tm_G mX7_sort := ⟨rfl, by decide +kernel, tm_in1 (i := 459) (by decide +kernel), tm_in1 (i := 7) (by decide +kernel), by decide +kernel, by decide +kernel, fun h => absurd h (by decide), fun _ => ⟨tm_in1 (i := 457) (by decide +kernel), tm_in1 (i := 458) (by decide +kernel), TX7, 5, rfl⟩, fun h => absurd h (by decide), by decide⟩
theorem tz_mX7_wholeNumber : tm_OkM tm_G mX7_wholeNumber := ⟨rfl, by decide +kernel, tm_in1 (i := 463) (by decide +kernel), tm_in1 (i := 7) (by decide +kernel), by decide +kernel, by decide +kernel, fun h => absurd h (by decide), fun _ => ⟨tm_in1 (i := 461) (by decide +kernel), tm_in1 (i := 462) (by decide +kernel), TX7, 5, rfl⟩, fun h => absurd h (by decide), by decide⟩
theorem tz_mX6_keeps : tm_OkM tm_G mX6_keeps := ⟨rfl, by decide +kernel, tm_in1 (i := 468) (by decide +kernel), tm_in1 (i := 6) (by decide +kernel), by decide +kernel, by decide +kernel, fun h => absurd h (by decide), fun _ => ⟨tm_in1 (i := 467) (by decide +kernel), tm_in0 (i := 9) (by decide +kernel), TX6, 7, rfl⟩, fun h => absurd h (by decide), by decide⟩
theorem tz_mX5_put : tm_OkM tm_G mX5_put := ⟨rfl, by decide +kernel, tm_in1 (i := 472) (by decide +kernel), tm_in1 (i := 5) (by decide +kernel), by decide +kernel, by decide +kernel, fun h => absurd h (by decide), fun _ => ⟨tm_in1 (i := 470) (by decide +kernel), tm_in1 (i := 471) (by decide +kernel), TX5, 4, rfl⟩, fun h => absurd h (by decide), by decide⟩
theorem tz_mX6_ends : tm_OkM tm_G mX6_ends := ⟨rfl, by decide +kernel, tm_in1 (i := 477) (by decide +kernel), tm_in1 (i := 6) (by decide +kernel), by decide +kernel, by decide +kernel, fun h => absurd h (by decide), fun _ => ⟨tm_in1 (i := 476) (by decide +kernel), tm_in0 (i := 10) (by decide +kernel), TX6, 7, rfl⟩, fun h => absurd h (by decide), by decide⟩
theorem tz_mX5_close : tm_OkM tm_G mX5_close := ⟨rfl, by decide +kernel, tm_in1 (i := 481) (by decide +kernel), tm_in1 (i := 5) (by decide +kernel), by decide +kernel, by decide +kernel, fun h => absurd h (by decide), fun _ => ⟨tm_in1 (i := 479) (by decide +kernel), tm_in1 (i := 480) (by decide +kernel), TX5, 4, rfl⟩, fun h => absurd h (by decide), by decide⟩
theorem tz_mX6_readWater : tm_OkM tm_G mX6_readWater := ⟨rfl, by decide +kernel, tm_in1 (i := 486) (by decide +kernel), tm_in1 (i := 6) (by decide +kernel), by decide +kernel, by decide +kernel, fun h => absurd h (by decide), fun _ => ⟨tm_in1 (i := 485) (by decide +kernel), tm_in0 (i := 11) (by decide +kernel), TX6, 7, rfl⟩, fun h => absurd h (by decide), by decide⟩
theorem tz_mX6_tellsWhole : tm_OkM tm_G mX6_tellsWhole := ⟨rfl, by decide +kernel, tm_in1 (i := 490) (by decide +kernel), tm_in1 (i := 6) (by decide +kernel), by decide +kernel, by decide +kernel, fun h => absurd h (by decide), fun _ => ⟨tm_in1 (i := 489) (by decide +kernel), tm_in0 (i := 12) (by decide +kernel), TX6, 7, rfl⟩, fun h => absurd h (by decide), by decide⟩
theorem tz_mX6_readKind : tm_OkM tm_G mX6_readKind := ⟨rfl, by decide +kernel, tm_in1 (i := 499) (by decide +kernel), tm_in1 (i := 6) (by decide +kernel), by decide +kernel, by decide +kernel, fun h => absurd h (by decide), fun _ => ⟨tm_in1 (i := 498) (by decide +kernel), tm_in0 (i := 13) (by decide +kernel), TX6, 7, rfl⟩, fun h => absurd h (by decide), by decide⟩
theorem tz_mX5_count : tm_OkM tm_G mX5_count := ⟨rfl, by decide +kernel, tm_in1 (i := 503) (by decide +kernel), tm_in1 (i := 5) (by decide +kernel), by decide +kernel, by decide +kernel, fun h => absurd h (by decide), fun _ => ⟨tm_in1 (i := 501) (by decide +kernel), tm_in1 (i := 502) (by decide +kernel), TX5, 4, rfl⟩, fun h => absurd h (by decide), by decide⟩
theorem tz_mX6_takesNewName : tm_OkM tm_G mX6_takesNewName := ⟨rfl, by decide +kernel, tm_in1 (i := 507) (by decide +kernel), tm_in1 (i := 6) (by decide +kernel), by decide +kernel, by decide +kernel, fun h => absurd h (by decide), fun _ => ⟨tm_in1 (i := 506) (by decide +kernel), tm_in0 (i := 14) (by decide +kernel), TX6, 7, rfl⟩, fun h => absurd h (by decide), by decide⟩
theorem tz_mX6_isName : tm_OkM tm_G mX6_isName := ⟨rfl, by decide +kernel, tm_in1 (i := 511) (by decide +kernel), tm_in1 (i := 6) (by decide +kernel), by decide +kernel, by decide +kernel, fun h => absurd h (by decide), fun _ => ⟨tm_in1 (i := 510) (by decide +kernel), tm_in0 (i := 15) (by decide +kernel), TX6, 7, rfl⟩, fun h => absurd h (by decide), by decide⟩
theorem tz_mX6_nameAtHand : tm_OkM tm_G mX6_nameAtHand := ⟨rfl, by decide +kernel, tm_in1 (i := 519) (by decide +kernel), tm_in1 (i := 6) (by decide +kernel), by decide +kernel, by decide +kernel, fun h => absurd h (by decide), fun _ => ⟨tm_in1 (i := 518) (by decide +kernel), tm_in0 (i := 16) (by decide +kernel), TX6, 7, rfl⟩, fun h => absurd h (by decide), by decide⟩
theorem tz_mX7_wordNumber : tm_OkM tm_G mX7_wordNumber := ⟨rfl, by decide +kernel, tm_in1 (i := 523) (by decide +kernel), tm_in1 (i := 7) (by decide +kernel), by decide +kernel, by decide +kernel, fun h => absurd h (by decide), fun _ => ⟨tm_in1 (i := 521) (by decide +kernel), tm_in1 (i := 522) (by decide +kernel), TX7, 5, rfl⟩, fun h => absurd h (by decide), by decide⟩
theorem tz_mX6_readTurn : tm_OkM tm_G mX6_readTurn := ⟨rfl, by decide +kernel, tm_in1 (i := 531) (by decide +kernel), tm_in1 (i := 6) (by decide +kernel), by decide +kernel, by decide +kernel, fun h => absurd h (by decide), fun _ => ⟨tm_in1 (i := 530) (by decide +kernel), tm_in0 (i := 17) (by decide +kernel), TX6, 7, rfl⟩, fun h => absurd h (by decide), by decide⟩
theorem tz_mX6_takesKindTurnedTo : tm_OkM tm_G mX6_takesKindTurnedTo := ⟨rfl, by decide +kernel, tm_in1 (i := 535) (by decide +kernel), tm_in1 (i := 6) (by decide +kernel), by decide +kernel, by decide +kernel, fun h => absurd h (by decide), fun _ => ⟨tm_in1 (i := 534) (by decide +kernel), tm_in0 (i := 18) (by decide +kernel), TX6, 7, rfl⟩, fun h => absurd h (by decide), by decide⟩
theorem tz_mX6_readRed : tm_OkM tm_G mX6_readRed := ⟨rfl, by decide +kernel, tm_in1 (i := 541) (by decide +kernel), tm_in1 (i := 6) (by decide +kernel), by decide +kernel, by decide +kernel, fun h => absurd h (by decide), fun _ => ⟨tm_in1 (i := 540) (by decide +kernel), tm_in0 (i := 19) (by decide +kernel), TX6, 7, rfl⟩, fun h => absurd h (by decide), by decide⟩
theorem tz_mX6_readStone : tm_OkM tm_G mX6_readStone := ⟨rfl, by decide +kernel, tm_in1 (i := 546) (by decide +kernel), tm_in1 (i := 6) (by decide +kernel), by decide +kernel, by decide +kernel, fun h => absurd h (by decide), fun _ => ⟨tm_in1 (i := 545) (by decide +kernel), tm_in0 (i := 20) (by decide +kernel), TX6, 7, rfl⟩, fun h => absurd h (by decide), by decide⟩
theorem tz_mX6_takesWord : tm_OkM tm_G mX6_takesWord := ⟨rfl, by decide +kernel, tm_in1 (i := 552) (by decide +kernel), tm_in1 (i := 6) (by decide +kernel), by decide +kernel, by decide +kernel, fun h => absurd h (by decide), fun _ => ⟨tm_in1 (i := 551) (by decide +kernel), tm_in0 (i := 21) (by decide +kernel), TX6, 7, rfl⟩, fun h => absurd h (by decide), by decide⟩
theorem tz_mX6_readSigns : tm_OkM tm_G mX6_readSigns := ⟨rfl, by decide +kernel, tm_in1 (i := 556) (by decide +kernel), tm_in1 (i := 6) (by decide +kernel), by decide +kernel, by decide +kernel, fun h => absurd h (by decide), fun _ => ⟨tm_in1 (i := 555) (by decide +kernel), tm_in0 (i := 22) (by decide +kernel), TX6, 7, rfl⟩, fun h => absurd h (by decide), by decide⟩
theorem tz_mX6_readSmith : tm_OkM tm_G mX6_readSmith := ⟨rfl, by decide +kernel, tm_in1 (i := 560) (by decide +kernel), tm_in1 (i := 6) (by decide +kernel), by decide +kernel, by decide +kernel, fun h => absurd h (by decide), fun _ => ⟨tm_in1 (i := 559) (by decide +kernel), tm_in0 (i := 23) (by decide +kernel), TX6, 7, rfl⟩, fun h => absurd h (by decide), by decide⟩
theorem tz_mX6_parts : tm_OkM tm_G mX6_parts := ⟨rfl, by decide +kernel, tm_in1 (i := 564) (by decide +kernel), tm_in1 (i := 6) (by decide +kernel), by decide +kernel, by decide +kernel, fun h => absurd h (by decide), fun _ => ⟨tm_in1 (i := 563) (by decide +kernel), tm_in0 (i := 24) (by decide +kernel), TX6, 7, rfl⟩, fun h => absurd h (by decide), by decide⟩
theorem tz_mX6_lacks : tm_OkM tm_G mX6_lacks := ⟨rfl, by decide +kernel, tm_in1 (i := 568) (by decide +kernel), tm_in1 (i := 6) (by decide +kernel), by decide +kernel, by decide +kernel, fun h => absurd h (by decide), fun _ => ⟨tm_in1 (i := 567) (by decide +kernel), tm_in0 (i := 25) (by decide +kernel), TX6, 7, rfl⟩, fun h => absurd h (by decide), by decide⟩
theorem tz_mX3_markTurns : tm_OkM tm_G mX3_markTurns := ⟨rfl, by decide +kernel, tm_in1 (i := 572) (by decide +kernel), tm_in1 (i := 4) (by decide +kernel), by decide +kernel, by decide +kernel, fun h => absurd h (by decide), fun _ => ⟨tm_in1 (i := 570) (by decide +kernel), tm_in1 (i := 571) (by decide +kernel), TX3, 9, rfl⟩, fun h => absurd h (by decide), by decide⟩
theorem tz_mX5_at : tm_OkM tm_G mX5_at := ⟨rfl, by decide +kernel, tm_in1 (i := 577) (by decide +kernel), tm_in1 (i := 5) (by decide +kernel), by decide +kernel, by decide +kernel, fun h => absurd h (by decide), fun _ => ⟨tm_in1 (i := 575) (by decide +kernel), tm_in1 (i := 576) (by decide +kernel), TX5, 4, rfl⟩, fun h => absurd h (by decide), by decide⟩
theorem tz_mX0_fit : tm_OkM tm_G mX0_fit := ⟨rfl, by decide +kernel, tm_in1 (i := 587) (by decide +kernel), tm_in1 (i := 8) (by decide +kernel), by decide +kernel, by decide +kernel, fun h => absurd h (by decide), fun _ => ⟨tm_in1 (i := 585) (by decide +kernel), tm_in1 (i := 586) (by decide +kernel), TX0, 4, rfl⟩, fun h => absurd h (by decide), by decide⟩
theorem tz_mX4_fit : tm_OkM tm_G mX4_fit := ⟨rfl, by decide +kernel, tm_in1 (i := 592) (by decide +kernel), tm_in1 (i := 9) (by decide +kernel), by decide +kernel, by decide +kernel, fun h => absurd h (by decide), fun _ => ⟨tm_in1 (i := 590) (by decide +kernel), tm_in1 (i := 591) (by decide +kernel), TX4, 18, rfl⟩, fun h => absurd h (by decide), by decide⟩
theorem tz_mJ7_fill_53178 : tm_OkM tm_G mJ7_fill_53178 := ⟨rfl, by decide +kernel, tm_in1 (i := 597) (by decide +kernel), tm_in1 (i := 17) (by decide +kernel), by decide +kernel, by decide +kernel, fun _ => tm_in1 (i := 596) (by decide +kernel), fun h => absurd h (by decide), fun h => absurd h (by decide), by decide⟩
theorem tz_mX4_heatTo : tm_OkM tm_G mX4_heatTo := ⟨rfl, by decide +kernel, tm_in1 (i := 601) (by decide +kernel), tm_in1 (i := 9) (by decide +kernel), by decide +kernel, by decide +kernel, fun h => absurd h (by decide), fun _ => ⟨tm_in1 (i := 599) (by decide +kernel), tm_in1 (i := 600) (by decide +kernel), TX4, 18, rfl⟩, fun h => absurd h (by decide), by decide⟩
theorem tz_mX4_wholePull : tm_OkM tm_G mX4_wholePull := ⟨rfl, by decide +kernel, tm_in1 (i := 605) (by decide +kernel), tm_in1 (i := 9) (by decide +kernel), by decide +kernel, by decide +kernel, fun h => absurd h (by decide), fun _ => ⟨tm_in1 (i := 603) (by decide +kernel), tm_in1 (i := 604) (by decide +kernel), TX4, 18, rfl⟩, fun h => absurd h (by decide), by decide⟩
theorem tz_mX4_sizeCut : tm_OkM tm_G mX4_sizeCut := ⟨rfl, by decide +kernel, tm_in1 (i := 609) (by decide +kernel), tm_in1 (i := 9) (by decide +kernel), by decide +kernel, by decide +kernel, fun h => absurd h (by decide), fun _ => ⟨tm_in1 (i := 608) (by decide +kernel), tm_in0 (i := 26) (by decide +kernel), TX4, 18, rfl⟩, fun h => absurd h (by decide), by decide⟩
theorem tz_mX0_heatTo : tm_OkM tm_G mX0_heatTo := ⟨rfl, by decide +kernel, tm_in1 (i := 613) (by decide +kernel), tm_in1 (i := 8) (by decide +kernel), by decide +kernel, by decide +kernel, fun h => absurd h (by decide), fun _ => ⟨tm_in1 (i := 611) (by decide +kernel), tm_in1 (i := 612) (by decide +kernel), TX0, 4, rfl⟩, fun h => absurd h (by decide), by decide⟩
theorem tz_mX8_fit : tm_OkM tm_G mX8_fit := ⟨rfl, by decide +kernel, tm_in1 (i := 618) (by decide +kernel), tm_in1 (i := 10) (by decide +kernel), by decide +kernel, by decide +kernel, fun h => absurd h (by decide), fun _ => ⟨tm_in1 (i := 616) (by decide +kernel), tm_in1 (i := 617) (by decide +kernel), TX8, 3, rfl⟩, fun h => absurd h (by decide), by decide⟩
theorem tz_mX1_clear : tm_OkM tm_G mX1_clear := ⟨rfl, by decide +kernel, tm_in1 (i := 623) (by decide +kernel), tm_in1 (i := 2) (by decide +kernel), by decide +kernel, by decide +kernel, fun h => absurd h (by decide), fun _ => ⟨tm_in1 (i := 621) (by decide +kernel), tm_in1 (i := 622) (by decide +kernel), TX1, 3, rfl⟩, fun h => absurd h (by decide), by decide⟩
theorem tz_mX2_clear : tm_OkM tm_G mX2_clear := ⟨rfl, by decide +kernel, tm_in1 (i := 628) (by decide +kernel), tm_in1 (i := 3) (by decide +kernel), by decide +kernel, by decide +kernel, fun h => absurd h (by decide), fun _ => ⟨tm_in1 (i := 626) (by decide +kernel), tm_in1 (i := 627) (by decide +kernel), TX2, 4, rfl⟩, fun h => absurd h (by decide), by decide⟩
theorem tz_mX9_answer : tm_OkM tm_G mX9_answer := ⟨rfl, by decide +kernel, tm_in1 (i := 633) (by decide +kernel), tm_in1 (i := 1) (by decide +kernel), by decide +kernel, by decide +kernel, fun h => absurd h (by decide), fun _ => ⟨tm_in1 (i := 632) (by decide +kernel), tm_in0 (i := 27) (by decide +kernel), TX9, 12, rfl⟩, fun h => absurd h (by decide), by decide⟩
theorem tz_mX9_fault : tm_OkM tm_G mX9_fault := ⟨rfl, by decide +kernel, tm_in1 (i := 637) (by decide +kernel), tm_in1 (i := 1) (by decide +kernel), by decide +kernel, by decide +kernel, fun h => absurd h (by decide), fun _ => ⟨tm_in1 (i := 635) (by decide +kernel), tm_in1 (i := 636) (by decide +kernel), TX9, 12, rfl⟩, fun h => absurd h (by decide), by decide⟩
theorem tz_mX9_where : tm_OkM tm_G mX9_where := ⟨rfl, by decide +kernel, tm_in1 (i := 641) (by decide +kernel), tm_in1 (i := 1) (by decide +kernel), by decide +kernel, by decide +kernel, fun h => absurd h (by decide), fun _ => ⟨tm_in1 (i := 639) (by decide +kernel), tm_in1 (i := 640) (by decide +kernel), TX9, 12, rfl⟩, fun h => absurd h (by decide), by decide⟩
theorem tz_mX6_place : tm_OkM tm_G mX6_place := ⟨rfl, by decide +kernel, tm_in1 (i := 645) (by decide +kernel), tm_in1 (i := 6) (by decide +kernel), by decide +kernel, by decide +kernel, fun h => absurd h (by decide), fun _ => ⟨tm_in1 (i := 643) (by decide +kernel), tm_in1 (i := 644) (by decide +kernel), TX6, 7, rfl⟩, fun h => absurd h (by decide), by decide⟩
theorem tz_mX7_place : tm_OkM tm_G mX7_place := ⟨rfl, by decide +kernel, tm_in1 (i := 649) (by decide +kernel), tm_in1 (i := 7) (by decide +kernel), by decide +kernel, by decide +kernel, fun h => absurd h (by decide), fun _ => ⟨tm_in1 (i := 647) (by decide +kernel), tm_in1 (i := 648) (by decide +kernel), TX7, 5, rfl⟩, fun h => absurd h (by decide), by decide⟩
theorem tz_mX9_heat : tm_OkM tm_G mX9_heat := ⟨rfl, by decide +kernel, tm_in1 (i := 653) (by decide +kernel), tm_in1 (i := 1) (by decide +kernel), by decide +kernel, by decide +kernel, fun h => absurd h (by decide), fun _ => ⟨tm_in1 (i := 651) (by decide +kernel), tm_in1 (i := 652) (by decide +kernel), TX9, 12, rfl⟩, fun h => absurd h (by decide), by decide⟩
theorem tz_mX9_refuses : tm_OkM tm_G mX9_refuses := ⟨rfl, by decide +kernel, tm_in1 (i := 657) (by decide +kernel), tm_in1 (i := 1) (by decide +kernel), by decide +kernel, by decide +kernel, fun h => absurd h (by decide), fun _ => ⟨tm_in1 (i := 656) (by decide +kernel), tm_in0 (i := 28) (by decide +kernel), TX9, 12, rfl⟩, fun h => absurd h (by decide), by decide⟩
theorem tz_mX9_isHeat : tm_OkM tm_G mX9_isHeat := ⟨rfl, by decide +kernel, tm_in1 (i := 660) (by decide +kernel), tm_in1 (i := 1) (by decide +kernel), by decide +kernel, by decide +kernel, fun _ => tm_in1 (i := 659) (by decide +kernel), fun h => absurd h (by decide), fun h => absurd h (by decide), by decide⟩
theorem tz_mX9_agrees : tm_OkM tm_G mX9_agrees := ⟨rfl, by decide +kernel, tm_in1 (i := 665) (by decide +kernel), tm_in1 (i := 1) (by decide +kernel), by decide +kernel, by decide +kernel, fun h => absurd h (by decide), fun _ => ⟨tm_in1 (i := 664) (by decide +kernel), tm_in0 (i := 29) (by decide +kernel), TX9, 12, rfl⟩, fun h => absurd h (by decide), by decide⟩
theorem tz_mX9_clay : tm_OkM tm_G mX9_clay := ⟨rfl, by decide +kernel, tm_in1 (i := 669) (by decide +kernel), tm_in1 (i := 1) (by decide +kernel), by decide +kernel, by decide +kernel, fun h => absurd h (by decide), fun _ => ⟨tm_in1 (i := 667) (by decide +kernel), tm_in1 (i := 668) (by decide +kernel), TX9, 12, rfl⟩, fun h => absurd h (by decide), by decide⟩
theorem tz_mX4_has : tm_OkM tm_G mX4_has := ⟨rfl, by decide +kernel, tm_in1 (i := 673) (by decide +kernel), tm_in1 (i := 9) (by decide +kernel), by decide +kernel, by decide +kernel, fun h => absurd h (by decide), fun _ => ⟨tm_in1 (i := 671) (by decide +kernel), tm_in1 (i := 672) (by decide +kernel), TX4, 18, rfl⟩, fun h => absurd h (by decide), by decide⟩
theorem tz_mX4_tenth : tm_OkM tm_G mX4_tenth := ⟨rfl, by decide +kernel, tm_in1 (i := 677) (by decide +kernel), tm_in1 (i := 9) (by decide +kernel), by decide +kernel, by decide +kernel, fun h => absurd h (by decide), fun _ => ⟨tm_in1 (i := 675) (by decide +kernel), tm_in1 (i := 676) (by decide +kernel), TX4, 18, rfl⟩, fun h => absurd h (by decide), by decide⟩
theorem tz_mX4_setClay : tm_OkM tm_G mX4_setClay := ⟨rfl, by decide +kernel, tm_in1 (i := 681) (by decide +kernel), tm_in1 (i := 9) (by decide +kernel), by decide +kernel, by decide +kernel, fun h => absurd h (by decide), fun _ => ⟨tm_in1 (i := 679) (by decide +kernel), tm_in1 (i := 680) (by decide +kernel), TX4, 18, rfl⟩, fun h => absurd h (by decide), by decide⟩
theorem tz_mX9_go : tm_OkM tm_G mX9_go := ⟨rfl, by decide +kernel, tm_in1 (i := 687) (by decide +kernel), tm_in1 (i := 1) (by decide +kernel), by decide +kernel, by decide +kernel, fun h => absurd h (by decide), fun _ => ⟨tm_in1 (i := 685) (by decide +kernel), tm_in1 (i := 686) (by decide +kernel), TX9, 12, rfl⟩, fun h => absurd h (by decide), by decide⟩
theorem tz_mX4_isCracked : tm_OkM tm_G mX4_isCracked := ⟨rfl, by decide +kernel, tm_in1 (i := 691) (by decide +kernel), tm_in1 (i := 9) (by decide +kernel), by decide +kernel, by decide +kernel, fun h => absurd h (by decide), fun _ => ⟨tm_in1 (i := 689) (by decide +kernel), tm_in1 (i := 690) (by decide +kernel), TX4, 18, rfl⟩, fun h => absurd h (by decide), by decide⟩
theorem tz_mX0_coolFor : tm_OkM tm_G mX0_coolFor := ⟨rfl, by decide +kernel, tm_in1 (i := 695) (by decide +kernel), tm_in1 (i := 8) (by decide +kernel), by decide +kernel, by decide +kernel, fun h => absurd h (by decide), fun _ => ⟨tm_in1 (i := 693) (by decide +kernel), tm_in1 (i := 694) (by decide +kernel), TX0, 4, rfl⟩, fun h => absurd h (by decide), by decide⟩
theorem tz_mX4_coolOnce : tm_OkM tm_G mX4_coolOnce := ⟨rfl, by decide +kernel, tm_in1 (i := 700) (by decide +kernel), tm_in1 (i := 9) (by decide +kernel), by decide +kernel, by decide +kernel, fun h => absurd h (by decide), fun _ => ⟨tm_in1 (i := 698) (by decide +kernel), tm_in1 (i := 699) (by decide +kernel), TX4, 18, rfl⟩, fun h => absurd h (by decide), by decide⟩
theorem tz_mX4_coolCut : tm_OkM tm_G mX4_coolCut := ⟨rfl, by decide +kernel, tm_in1 (i := 704) (by decide +kernel), tm_in1 (i := 9) (by decide +kernel), by decide +kernel, by decide +kernel, fun h => absurd h (by decide), fun _ => ⟨tm_in1 (i := 703) (by decide +kernel), tm_in0 (i := 30) (by decide +kernel), TX4, 18, rfl⟩, fun h => absurd h (by decide), by decide⟩
theorem tz_mX4_gained : tm_OkM tm_G mX4_gained := ⟨rfl, by decide +kernel, tm_in1 (i := 708) (by decide +kernel), tm_in1 (i := 9) (by decide +kernel), by decide +kernel, by decide +kernel, fun h => absurd h (by decide), fun _ => ⟨tm_in1 (i := 707) (by decide +kernel), tm_in0 (i := 31) (by decide +kernel), TX4, 18, rfl⟩, fun h => absurd h (by decide), by decide⟩
theorem tz_mX3_kindOfFall : tm_OkM tm_G mX3_kindOfFall := ⟨rfl, by decide +kernel, tm_in1 (i := 712) (by decide +kernel), tm_in1 (i := 4) (by decide +kernel), by decide +kernel, by decide +kernel, fun h => absurd h (by decide), fun _ => ⟨tm_in1 (i := 710) (by decide +kernel), tm_in1 (i := 711) (by decide +kernel), TX3, 9, rfl⟩, fun h => absurd h (by decide), by decide⟩
theorem tz_mX4_turnCell : tm_OkM tm_G mX4_turnCell := ⟨rfl, by decide +kernel, tm_in1 (i := 716) (by decide +kernel), tm_in1 (i := 9) (by decide +kernel), by decide +kernel, by decide +kernel, fun h => absurd h (by decide), fun _ => ⟨tm_in1 (i := 715) (by decide +kernel), tm_in0 (i := 32) (by decide +kernel), TX4, 18, rfl⟩, fun h => absurd h (by decide), by decide⟩
theorem tz_mX4_strainCut : tm_OkM tm_G mX4_strainCut := ⟨rfl, by decide +kernel, tm_in1 (i := 720) (by decide +kernel), tm_in1 (i := 9) (by decide +kernel), by decide +kernel, by decide +kernel, fun h => absurd h (by decide), fun _ => ⟨tm_in1 (i := 719) (by decide +kernel), tm_in0 (i := 33) (by decide +kernel), TX4, 18, rfl⟩, fun h => absurd h (by decide), by decide⟩
theorem tz_mX4_totalOf : tm_OkM tm_G mX4_totalOf := ⟨rfl, by decide +kernel, tm_in1 (i := 724) (by decide +kernel), tm_in1 (i := 9) (by decide +kernel), by decide +kernel, by decide +kernel, fun h => absurd h (by decide), fun _ => ⟨tm_in1 (i := 723) (by decide +kernel), tm_in0 (i := 34) (by decide +kernel), TX4, 18, rfl⟩, fun h => absurd h (by decide), by decide⟩
theorem tz_mX4_curveOf : tm_OkM tm_G mX4_curveOf := ⟨rfl, by decide +kernel, tm_in1 (i := 728) (by decide +kernel), tm_in1 (i := 9) (by decide +kernel), by decide +kernel, by decide +kernel, fun h => absurd h (by decide), fun _ => ⟨tm_in1 (i := 726) (by decide +kernel), tm_in1 (i := 727) (by decide +kernel), TX4, 18, rfl⟩, fun h => absurd h (by decide), by decide⟩
theorem tz_mX4_pullBy : tm_OkM tm_G mX4_pullBy := ⟨rfl, by decide +kernel, tm_in1 (i := 732) (by decide +kernel), tm_in1 (i := 9) (by decide +kernel), by decide +kernel, by decide +kernel, fun h => absurd h (by decide), fun _ => ⟨tm_in1 (i := 731) (by decide +kernel), tm_in0 (i := 35) (by decide +kernel), TX4, 18, rfl⟩, fun h => absurd h (by decide), by decide⟩
theorem tz_mX4_bendNow : tm_OkM tm_G mX4_bendNow := ⟨rfl, by decide +kernel, tm_in1 (i := 739) (by decide +kernel), tm_in1 (i := 9) (by decide +kernel), by decide +kernel, by decide +kernel, fun h => absurd h (by decide), fun _ => ⟨tm_in1 (i := 737) (by decide +kernel), tm_in1 (i := 738) (by decide +kernel), TX4, 18, rfl⟩, fun h => absurd h (by decide), by decide⟩
theorem tz_mX9_again : tm_OkM tm_G mX9_again := ⟨rfl, by decide +kernel, tm_in1 (i := 745) (by decide +kernel), tm_in1 (i := 1) (by decide +kernel), by decide +kernel, by decide +kernel, fun h => absurd h (by decide), fun _ => ⟨tm_in1 (i := 743) (by decide +kernel), tm_in1 (i := 744) (by decide +kernel), TX9, 12, rfl⟩, fun h => absurd h (by decide), by decide⟩
theorem tz_mX0_goBackTo : tm_OkM tm_G mX0_goBackTo := ⟨rfl, by decide +kernel, tm_in1 (i := 749) (by decide +kernel), tm_in1 (i := 8) (by decide +kernel), by decide +kernel, by decide +kernel, fun h => absurd h (by decide), fun _ => ⟨tm_in1 (i := 747) (by decide +kernel), tm_in1 (i := 748) (by decide +kernel), TX0, 4, rfl⟩, fun h => absurd h (by decide), by decide⟩
theorem tz_mX9_cell : tm_OkM tm_G mX9_cell := ⟨rfl, by decide +kernel, tm_in1 (i := 755) (by decide +kernel), tm_in1 (i := 1) (by decide +kernel), by decide +kernel, by decide +kernel, fun h => absurd h (by decide), fun _ => ⟨tm_in1 (i := 753) (by decide +kernel), tm_in1 (i := 754) (by decide +kernel), TX9, 12, rfl⟩, fun h => absurd h (by decide), by decide⟩
theorem tz_mX4_heatOf : tm_OkM tm_G mX4_heatOf := ⟨rfl, by decide +kernel, tm_in1 (i := 759) (by decide +kernel), tm_in1 (i := 9) (by decide +kernel), by decide +kernel, by decide +kernel, fun h => absurd h (by decide), fun _ => ⟨tm_in1 (i := 757) (by decide +kernel), tm_in1 (i := 758) (by decide +kernel), TX4, 18, rfl⟩, fun h => absurd h (by decide), by decide⟩
theorem tz_mX4_kindOf : tm_OkM tm_G mX4_kindOf := ⟨rfl, by decide +kernel, tm_in1 (i := 763) (by decide +kernel), tm_in1 (i := 9) (by decide +kernel), by decide +kernel, by decide +kernel, fun h => absurd h (by decide), fun _ => ⟨tm_in1 (i := 761) (by decide +kernel), tm_in1 (i := 762) (by decide +kernel), TX4, 18, rfl⟩, fun h => absurd h (by decide), by decide⟩
theorem tz_mX4_clayOf : tm_OkM tm_G mX4_clayOf := ⟨rfl, by decide +kernel, tm_in1 (i := 767) (by decide +kernel), tm_in1 (i := 9) (by decide +kernel), by decide +kernel, by decide +kernel, fun h => absurd h (by decide), fun _ => ⟨tm_in1 (i := 765) (by decide +kernel), tm_in1 (i := 766) (by decide +kernel), TX4, 18, rfl⟩, fun h => absurd h (by decide), by decide⟩
theorem tz_mX4_sizeOf : tm_OkM tm_G mX4_sizeOf := ⟨rfl, by decide +kernel, tm_in1 (i := 771) (by decide +kernel), tm_in1 (i := 9) (by decide +kernel), by decide +kernel, by decide +kernel, fun h => absurd h (by decide), fun _ => ⟨tm_in1 (i := 769) (by decide +kernel), tm_in1 (i := 770) (by decide +kernel), TX4, 18, rfl⟩, fun h => absurd h (by decide), by decide⟩
theorem tz_mX4_turnOf : tm_OkM tm_G mX4_turnOf := ⟨rfl, by decide +kernel, tm_in1 (i := 775) (by decide +kernel), tm_in1 (i := 9) (by decide +kernel), by decide +kernel, by decide +kernel, fun h => absurd h (by decide), fun _ => ⟨tm_in1 (i := 773) (by decide +kernel), tm_in1 (i := 774) (by decide +kernel), TX4, 18, rfl⟩, fun h => absurd h (by decide), by decide⟩
theorem tz_mX9_pull : tm_OkM tm_G mX9_pull := ⟨rfl, by decide +kernel, tm_in1 (i := 779) (by decide +kernel), tm_in1 (i := 1) (by decide +kernel), by decide +kernel, by decide +kernel, fun h => absurd h (by decide), fun _ => ⟨tm_in1 (i := 777) (by decide +kernel), tm_in1 (i := 778) (by decide +kernel), TX9, 12, rfl⟩, fun h => absurd h (by decide), by decide⟩
theorem tz_mX4_pullOf : tm_OkM tm_G mX4_pullOf := ⟨rfl, by decide +kernel, tm_in1 (i := 784) (by decide +kernel), tm_in1 (i := 9) (by decide +kernel), by decide +kernel, by decide +kernel, fun h => absurd h (by decide), fun _ => ⟨tm_in1 (i := 782) (by decide +kernel), tm_in1 (i := 783) (by decide +kernel), TX4, 18, rfl⟩, fun h => absurd h (by decide), by decide⟩
theorem tz_mX9_curve : tm_OkM tm_G mX9_curve := ⟨rfl, by decide +kernel, tm_in1 (i := 788) (by decide +kernel), tm_in1 (i := 1) (by decide +kernel), by decide +kernel, by decide +kernel, fun h => absurd h (by decide), fun _ => ⟨tm_in1 (i := 786) (by decide +kernel), tm_in1 (i := 787) (by decide +kernel), TX9, 12, rfl⟩, fun h => absurd h (by decide), by decide⟩
theorem tz_mX9_bend : tm_OkM tm_G mX9_bend := ⟨rfl, by decide +kernel, tm_in1 (i := 794) (by decide +kernel), tm_in1 (i := 1) (by decide +kernel), by decide +kernel, by decide +kernel, fun h => absurd h (by decide), fun _ => ⟨tm_in1 (i := 792) (by decide +kernel), tm_in1 (i := 793) (by decide +kernel), TX9, 12, rfl⟩, fun h => absurd h (by decide), by decide⟩
theorem tz_mX0_leastBend : tm_OkM tm_G mX0_leastBend := ⟨rfl, by decide +kernel, tm_in1 (i := 799) (by decide +kernel), tm_in1 (i := 8) (by decide +kernel), by decide +kernel, by decide +kernel, fun h => absurd h (by decide), fun _ => ⟨tm_in1 (i := 797) (by decide +kernel), tm_in1 (i := 798) (by decide +kernel), TX0, 4, rfl⟩, fun h => absurd h (by decide), by decide⟩
theorem tz_mX0_greatestBend : tm_OkM tm_G mX0_greatestBend := ⟨rfl, by decide +kernel, tm_in1 (i := 803) (by decide +kernel), tm_in1 (i := 8) (by decide +kernel), by decide +kernel, by decide +kernel, fun h => absurd h (by decide), fun _ => ⟨tm_in1 (i := 801) (by decide +kernel), tm_in1 (i := 802) (by decide +kernel), TX0, 4, rfl⟩, fun h => absurd h (by decide), by decide⟩
theorem tz_mX9_crack : tm_OkM tm_G mX9_crack := ⟨rfl, by decide +kernel, tm_in1 (i := 807) (by decide +kernel), tm_in1 (i := 1) (by decide +kernel), by decide +kernel, by decide +kernel, fun h => absurd h (by decide), fun _ => ⟨tm_in1 (i := 805) (by decide +kernel), tm_in1 (i := 806) (by decide +kernel), TX9, 12, rfl⟩, fun h => absurd h (by decide), by decide⟩
theorem tz_mX4_crackAlong : tm_OkM tm_G mX4_crackAlong := ⟨rfl, by decide +kernel, tm_in1 (i := 811) (by decide +kernel), tm_in1 (i := 9) (by decide +kernel), by decide +kernel, by decide +kernel, fun h => absurd h (by decide), fun _ => ⟨tm_in1 (i := 809) (by decide +kernel), tm_in1 (i := 810) (by decide +kernel), TX4, 18, rfl⟩, fun h => absurd h (by decide), by decide⟩
theorem tz_mX4_crackAcross : tm_OkM tm_G mX4_crackAcross := ⟨rfl, by decide +kernel, tm_in1 (i := 815) (by decide +kernel), tm_in1 (i := 9) (by decide +kernel), by decide +kernel, by decide +kernel, fun h => absurd h (by decide), fun _ => ⟨tm_in1 (i := 813) (by decide +kernel), tm_in1 (i := 814) (by decide +kernel), TX4, 18, rfl⟩, fun h => absurd h (by decide), by decide⟩
theorem tz_mX9_cold : tm_OkM tm_G mX9_cold := ⟨rfl, by decide +kernel, tm_in1 (i := 819) (by decide +kernel), tm_in1 (i := 1) (by decide +kernel), by decide +kernel, by decide +kernel, fun h => absurd h (by decide), fun _ => ⟨tm_in1 (i := 817) (by decide +kernel), tm_in1 (i := 818) (by decide +kernel), TX9, 12, rfl⟩, fun h => absurd h (by decide), by decide⟩
theorem tz_mX4_isCold : tm_OkM tm_G mX4_isCold := ⟨rfl, by decide +kernel, tm_in1 (i := 823) (by decide +kernel), tm_in1 (i := 9) (by decide +kernel), by decide +kernel, by decide +kernel, fun h => absurd h (by decide), fun _ => ⟨tm_in1 (i := 821) (by decide +kernel), tm_in1 (i := 822) (by decide +kernel), TX4, 18, rfl⟩, fun h => absurd h (by decide), by decide⟩
theorem tz_mX9_cloud : tm_OkM tm_G mX9_cloud := ⟨rfl, by decide +kernel, tm_in1 (i := 827) (by decide +kernel), tm_in1 (i := 1) (by decide +kernel), by decide +kernel, by decide +kernel, fun h => absurd h (by decide), fun _ => ⟨tm_in1 (i := 825) (by decide +kernel), tm_in1 (i := 826) (by decide +kernel), TX9, 12, rfl⟩, fun h => absurd h (by decide), by decide⟩
theorem tz_mX9_isHardness : tm_OkM tm_G mX9_isHardness := ⟨rfl, by decide +kernel, tm_in1 (i := 830) (by decide +kernel), tm_in1 (i := 1) (by decide +kernel), by decide +kernel, by decide +kernel, fun _ => tm_in1 (i := 829) (by decide +kernel), fun h => absurd h (by decide), fun h => absurd h (by decide), by decide⟩
theorem tz_mX4_cloudOf : tm_OkM tm_G mX4_cloudOf := ⟨rfl, by decide +kernel, tm_in1 (i := 834) (by decide +kernel), tm_in1 (i := 9) (by decide +kernel), by decide +kernel, by decide +kernel, fun h => absurd h (by decide), fun _ => ⟨tm_in1 (i := 832) (by decide +kernel), tm_in1 (i := 833) (by decide +kernel), TX4, 18, rfl⟩, fun h => absurd h (by decide), by decide⟩
theorem tz_mX4_isHard : tm_OkM tm_G mX4_isHard := ⟨rfl, by decide +kernel, tm_in1 (i := 838) (by decide +kernel), tm_in1 (i := 9) (by decide +kernel), by decide +kernel, by decide +kernel, fun h => absurd h (by decide), fun _ => ⟨tm_in1 (i := 836) (by decide +kernel), tm_in1 (i := 837) (by decide +kernel), TX4, 18, rfl⟩, fun h => absurd h (by decide), by decide⟩
theorem tz_mX9_chip : tm_OkM tm_G mX9_chip := ⟨rfl, by decide +kernel, tm_in1 (i := 843) (by decide +kernel), tm_in1 (i := 1) (by decide +kernel), by decide +kernel, by decide +kernel, fun h => absurd h (by decide), fun _ => ⟨tm_in1 (i := 841) (by decide +kernel), tm_in1 (i := 842) (by decide +kernel), TX9, 12, rfl⟩, fun h => absurd h (by decide), by decide⟩
theorem tz_mX4_chipFrom : tm_OkM tm_G mX4_chipFrom := ⟨rfl, by decide +kernel, tm_in1 (i := 847) (by decide +kernel), tm_in1 (i := 9) (by decide +kernel), by decide +kernel, by decide +kernel, fun h => absurd h (by decide), fun _ => ⟨tm_in1 (i := 845) (by decide +kernel), tm_in1 (i := 846) (by decide +kernel), TX4, 18, rfl⟩, fun h => absurd h (by decide), by decide⟩
theorem tz_mX9_aim : tm_OkM tm_G mX9_aim := ⟨rfl, by decide +kernel, tm_in1 (i := 851) (by decide +kernel), tm_in1 (i := 1) (by decide +kernel), by decide +kernel, by decide +kernel, fun h => absurd h (by decide), fun _ => ⟨tm_in1 (i := 849) (by decide +kernel), tm_in1 (i := 850) (by decide +kernel), TX9, 12, rfl⟩, fun h => absurd h (by decide), by decide⟩
theorem tz_mX9_isWidth : tm_OkM tm_G mX9_isWidth := ⟨rfl, by decide +kernel, tm_in1 (i := 855) (by decide +kernel), tm_in1 (i := 1) (by decide +kernel), by decide +kernel, by decide +kernel, fun h => absurd h (by decide), fun _ => ⟨tm_in1 (i := 854) (by decide +kernel), tm_in0 (i := 36) (by decide +kernel), TX9, 12, rfl⟩, fun h => absurd h (by decide), by decide⟩
theorem tz_mX4_width : tm_OkM tm_G mX4_width := ⟨rfl, by decide +kernel, tm_in1 (i := 859) (by decide +kernel), tm_in1 (i := 9) (by decide +kernel), by decide +kernel, by decide +kernel, fun h => absurd h (by decide), fun _ => ⟨tm_in1 (i := 857) (by decide +kernel), tm_in1 (i := 858) (by decide +kernel), TX4, 18, rfl⟩, fun h => absurd h (by decide), by decide⟩
theorem tz_mX8_leastClay : tm_OkM tm_G mX8_leastClay := ⟨rfl, by decide +kernel, tm_in1 (i := 863) (by decide +kernel), tm_in1 (i := 10) (by decide +kernel), by decide +kernel, by decide +kernel, fun h => absurd h (by decide), fun _ => ⟨tm_in1 (i := 861) (by decide +kernel), tm_in1 (i := 862) (by decide +kernel), TX8, 3, rfl⟩, fun h => absurd h (by decide), by decide⟩
theorem tz_mX8_totalOfWay : tm_OkM tm_G mX8_totalOfWay := ⟨rfl, by decide +kernel, tm_in1 (i := 868) (by decide +kernel), tm_in1 (i := 10) (by decide +kernel), by decide +kernel, by decide +kernel, fun h => absurd h (by decide), fun _ => ⟨tm_in1 (i := 867) (by decide +kernel), tm_in0 (i := 37) (by decide +kernel), TX8, 3, rfl⟩, fun h => absurd h (by decide), by decide⟩
theorem tz_mX8_clayOfWay : tm_OkM tm_G mX8_clayOfWay := ⟨rfl, by decide +kernel, tm_in1 (i := 872) (by decide +kernel), tm_in1 (i := 10) (by decide +kernel), by decide +kernel, by decide +kernel, fun h => absurd h (by decide), fun _ => ⟨tm_in1 (i := 871) (by decide +kernel), tm_in0 (i := 38) (by decide +kernel), TX8, 3, rfl⟩, fun h => absurd h (by decide), by decide⟩
theorem tz_mX8_isAimed : tm_OkM tm_G mX8_isAimed := ⟨rfl, by decide +kernel, tm_in1 (i := 876) (by decide +kernel), tm_in1 (i := 10) (by decide +kernel), by decide +kernel, by decide +kernel, fun h => absurd h (by decide), fun _ => ⟨tm_in1 (i := 875) (by decide +kernel), tm_in0 (i := 39) (by decide +kernel), TX8, 3, rfl⟩, fun h => absurd h (by decide), by decide⟩
theorem tz_mX8_usefulClay : tm_OkM tm_G mX8_usefulClay := ⟨rfl, by decide +kernel, tm_in1 (i := 880) (by decide +kernel), tm_in1 (i := 10) (by decide +kernel), by decide +kernel, by decide +kernel, fun h => absurd h (by decide), fun _ => ⟨tm_in1 (i := 879) (by decide +kernel), tm_in0 (i := 40) (by decide +kernel), TX8, 3, rfl⟩, fun h => absurd h (by decide), by decide⟩
theorem tz_mX8_toldWater : tm_OkM tm_G mX8_toldWater := ⟨rfl, by decide +kernel, tm_in1 (i := 886) (by decide +kernel), tm_in1 (i := 10) (by decide +kernel), by decide +kernel, by decide +kernel, fun h => absurd h (by decide), fun _ => ⟨tm_in1 (i := 885) (by decide +kernel), tm_in0 (i := 41) (by decide +kernel), TX8, 3, rfl⟩, fun h => absurd h (by decide), by decide⟩
theorem tz_mX8_cracksAt : tm_OkM tm_G mX8_cracksAt := ⟨rfl, by decide +kernel, tm_in1 (i := 890) (by decide +kernel), tm_in1 (i := 10) (by decide +kernel), by decide +kernel, by decide +kernel, fun h => absurd h (by decide), fun _ => ⟨tm_in1 (i := 889) (by decide +kernel), tm_in0 (i := 42) (by decide +kernel), TX8, 3, rfl⟩, fun h => absurd h (by decide), by decide⟩
theorem tz_mX4_pourWater : tm_OkM tm_G mX4_pourWater := ⟨rfl, by decide +kernel, tm_in1 (i := 894) (by decide +kernel), tm_in1 (i := 9) (by decide +kernel), by decide +kernel, by decide +kernel, fun h => absurd h (by decide), fun _ => ⟨tm_in1 (i := 892) (by decide +kernel), tm_in1 (i := 893) (by decide +kernel), TX4, 18, rfl⟩, fun h => absurd h (by decide), by decide⟩
theorem tz_mX4_isHardBehind : tm_OkM tm_G mX4_isHardBehind := ⟨rfl, by decide +kernel, tm_in1 (i := 902) (by decide +kernel), tm_in1 (i := 9) (by decide +kernel), by decide +kernel, by decide +kernel, fun h => absurd h (by decide), fun _ => ⟨tm_in1 (i := 900) (by decide +kernel), tm_in1 (i := 901) (by decide +kernel), TX4, 18, rfl⟩, fun h => absurd h (by decide), by decide⟩
theorem tz_mX8_tensOfWay : tm_OkM tm_G mX8_tensOfWay := ⟨rfl, by decide +kernel, tm_in1 (i := 906) (by decide +kernel), tm_in1 (i := 10) (by decide +kernel), by decide +kernel, by decide +kernel, fun h => absurd h (by decide), fun _ => ⟨tm_in1 (i := 905) (by decide +kernel), tm_in0 (i := 43) (by decide +kernel), TX8, 3, rfl⟩, fun h => absurd h (by decide), by decide⟩
theorem tz_mX9_scatter : tm_OkM tm_G mX9_scatter := ⟨rfl, by decide +kernel, tm_in1 (i := 910) (by decide +kernel), tm_in1 (i := 1) (by decide +kernel), by decide +kernel, by decide +kernel, fun h => absurd h (by decide), fun _ => ⟨tm_in1 (i := 908) (by decide +kernel), tm_in1 (i := 909) (by decide +kernel), TX9, 12, rfl⟩, fun h => absurd h (by decide), by decide⟩
theorem tz_mX9_isScatter : tm_OkM tm_G mX9_isScatter := ⟨rfl, by decide +kernel, tm_in1 (i := 913) (by decide +kernel), tm_in1 (i := 1) (by decide +kernel), by decide +kernel, by decide +kernel, fun _ => tm_in1 (i := 912) (by decide +kernel), fun h => absurd h (by decide), fun h => absurd h (by decide), by decide⟩
theorem tz_mX9_trialsOfBar : tm_OkM tm_G mX9_trialsOfBar := ⟨rfl, by decide +kernel, tm_in1 (i := 917) (by decide +kernel), tm_in1 (i := 1) (by decide +kernel), by decide +kernel, by decide +kernel, fun h => absurd h (by decide), fun _ => ⟨tm_in1 (i := 916) (by decide +kernel), tm_in0 (i := 44) (by decide +kernel), TX9, 12, rfl⟩, fun h => absurd h (by decide), by decide⟩
theorem tz_mX8_setClay : tm_OkM tm_G mX8_setClay := ⟨rfl, by decide +kernel, tm_in1 (i := 921) (by decide +kernel), tm_in1 (i := 10) (by decide +kernel), by decide +kernel, by decide +kernel, fun h => absurd h (by decide), fun _ => ⟨tm_in1 (i := 919) (by decide +kernel), tm_in1 (i := 920) (by decide +kernel), TX8, 3, rfl⟩, fun h => absurd h (by decide), by decide⟩
theorem tz_mX8_cracksOfNine : tm_OkM tm_G mX8_cracksOfNine := ⟨rfl, by decide +kernel, tm_in1 (i := 925) (by decide +kernel), tm_in1 (i := 10) (by decide +kernel), by decide +kernel, by decide +kernel, fun h => absurd h (by decide), fun _ => ⟨tm_in1 (i := 923) (by decide +kernel), tm_in1 (i := 924) (by decide +kernel), TX8, 3, rfl⟩, fun h => absurd h (by decide), by decide⟩
theorem tz_mX8_clayWith : tm_OkM tm_G mX8_clayWith := ⟨rfl, by decide +kernel, tm_in1 (i := 929) (by decide +kernel), tm_in1 (i := 10) (by decide +kernel), by decide +kernel, by decide +kernel, fun h => absurd h (by decide), fun _ => ⟨tm_in1 (i := 928) (by decide +kernel), tm_in0 (i := 45) (by decide +kernel), TX8, 3, rfl⟩, fun h => absurd h (by decide), by decide⟩
theorem tz_mX8_heatWith : tm_OkM tm_G mX8_heatWith := ⟨rfl, by decide +kernel, tm_in1 (i := 933) (by decide +kernel), tm_in1 (i := 10) (by decide +kernel), by decide +kernel, by decide +kernel, fun _ => tm_in1 (i := 932) (by decide +kernel), fun h => absurd h (by decide), fun h => absurd h (by decide), by decide⟩
theorem tz_mX8_waterWith : tm_OkM tm_G mX8_waterWith := ⟨rfl, by decide +kernel, tm_in1 (i := 937) (by decide +kernel), tm_in1 (i := 10) (by decide +kernel), by decide +kernel, by decide +kernel, fun h => absurd h (by decide), fun _ => ⟨tm_in1 (i := 936) (by decide +kernel), tm_in0 (i := 46) (by decide +kernel), TX8, 3, rfl⟩, fun h => absurd h (by decide), by decide⟩
theorem tz_mX9_lowers : tm_OkM tm_G mX9_lowers := ⟨rfl, by decide +kernel, tm_in1 (i := 941) (by decide +kernel), tm_in1 (i := 1) (by decide +kernel), by decide +kernel, by decide +kernel, fun h => absurd h (by decide), fun _ => ⟨tm_in1 (i := 939) (by decide +kernel), tm_in1 (i := 940) (by decide +kernel), TX9, 12, rfl⟩, fun h => absurd h (by decide), by decide⟩
theorem tz_mX8_bestChange : tm_OkM tm_G mX8_bestChange := ⟨rfl, by decide +kernel, tm_in1 (i := 945) (by decide +kernel), tm_in1 (i := 10) (by decide +kernel), by decide +kernel, by decide +kernel, fun h => absurd h (by decide), fun _ => ⟨tm_in1 (i := 943) (by decide +kernel), tm_in1 (i := 944) (by decide +kernel), TX8, 3, rfl⟩, fun h => absurd h (by decide), by decide⟩
theorem tz_mX9_why : tm_OkM tm_G mX9_why := ⟨rfl, by decide +kernel, tm_in1 (i := 950) (by decide +kernel), tm_in1 (i := 1) (by decide +kernel), by decide +kernel, by decide +kernel, fun h => absurd h (by decide), fun _ => ⟨tm_in1 (i := 948) (by decide +kernel), tm_in1 (i := 949) (by decide +kernel), TX9, 12, rfl⟩, fun h => absurd h (by decide), by decide⟩
theorem tz_mX8_cracksWith : tm_OkM tm_G mX8_cracksWith := ⟨rfl, by decide +kernel, tm_in1 (i := 954) (by decide +kernel), tm_in1 (i := 10) (by decide +kernel), by decide +kernel, by decide +kernel, fun h => absurd h (by decide), fun _ => ⟨tm_in1 (i := 952) (by decide +kernel), tm_in1 (i := 953) (by decide +kernel), TX8, 3, rfl⟩, fun h => absurd h (by decide), by decide⟩
theorem tz_mX8_savingChanges : tm_OkM tm_G mX8_savingChanges := ⟨rfl, by decide +kernel, tm_in1 (i := 958) (by decide +kernel), tm_in1 (i := 10) (by decide +kernel), by decide +kernel, by decide +kernel, fun h => absurd h (by decide), fun _ => ⟨tm_in1 (i := 956) (by decide +kernel), tm_in1 (i := 957) (by decide +kernel), TX8, 3, rfl⟩, fun h => absurd h (by decide), by decide⟩
theorem tz_mX9_lay : tm_OkM tm_G mX9_lay := ⟨rfl, by decide +kernel, tm_in1 (i := 963) (by decide +kernel), tm_in1 (i := 1) (by decide +kernel), by decide +kernel, by decide +kernel, fun h => absurd h (by decide), fun _ => ⟨tm_in1 (i := 961) (by decide +kernel), tm_in1 (i := 962) (by decide +kernel), TX9, 12, rfl⟩, fun h => absurd h (by decide), by decide⟩
theorem tz_mX1_has : tm_OkM tm_G mX1_has := ⟨rfl, by decide +kernel, tm_in1 (i := 967) (by decide +kernel), tm_in1 (i := 2) (by decide +kernel), by decide +kernel, by decide +kernel, fun h => absurd h (by decide), fun _ => ⟨tm_in1 (i := 965) (by decide +kernel), tm_in1 (i := 966) (by decide +kernel), TX1, 3, rfl⟩, fun h => absurd h (by decide), by decide⟩
theorem tz_mX1_put : tm_OkM tm_G mX1_put := ⟨rfl, by decide +kernel, tm_in1 (i := 971) (by decide +kernel), tm_in1 (i := 2) (by decide +kernel), by decide +kernel, by decide +kernel, fun h => absurd h (by decide), fun _ => ⟨tm_in1 (i := 969) (by decide +kernel), tm_in1 (i := 970) (by decide +kernel), TX1, 3, rfl⟩, fun h => absurd h (by decide), by decide⟩
theorem tz_mX9_fold : tm_OkM tm_G mX9_fold := ⟨rfl, by decide +kernel, tm_in1 (i := 976) (by decide +kernel), tm_in1 (i := 1) (by decide +kernel), by decide +kernel, by decide +kernel, fun h => absurd h (by decide), fun _ => ⟨tm_in1 (i := 974) (by decide +kernel), tm_in1 (i := 975) (by decide +kernel), TX9, 12, rfl⟩, fun h => absurd h (by decide), by decide⟩
theorem tz_mX1_foldTimes : tm_OkM tm_G mX1_foldTimes := ⟨rfl, by decide +kernel, tm_in1 (i := 980) (by decide +kernel), tm_in1 (i := 2) (by decide +kernel), by decide +kernel, by decide +kernel, fun h => absurd h (by decide), fun _ => ⟨tm_in1 (i := 978) (by decide +kernel), tm_in1 (i := 979) (by decide +kernel), TX1, 3, rfl⟩, fun h => absurd h (by decide), by decide⟩
theorem tz_mX1_foldOver : tm_OkM tm_G mX1_foldOver := ⟨rfl, by decide +kernel, tm_in1 (i := 983) (by decide +kernel), tm_in1 (i := 2) (by decide +kernel), by decide +kernel, by decide +kernel, fun _ => tm_in1 (i := 982) (by decide +kernel), fun h => absurd h (by decide), fun h => absurd h (by decide), by decide⟩
theorem tz_mX9_layer : tm_OkM tm_G mX9_layer := ⟨rfl, by decide +kernel, tm_in1 (i := 987) (by decide +kernel), tm_in1 (i := 1) (by decide +kernel), by decide +kernel, by decide +kernel, fun h => absurd h (by decide), fun _ => ⟨tm_in1 (i := 985) (by decide +kernel), tm_in1 (i := 986) (by decide +kernel), TX9, 12, rfl⟩, fun h => absurd h (by decide), by decide⟩
theorem tz_mX1_at : tm_OkM tm_G mX1_at := ⟨rfl, by decide +kernel, tm_in1 (i := 991) (by decide +kernel), tm_in1 (i := 2) (by decide +kernel), by decide +kernel, by decide +kernel, fun h => absurd h (by decide), fun _ => ⟨tm_in1 (i := 989) (by decide +kernel), tm_in1 (i := 990) (by decide +kernel), TX1, 3, rfl⟩, fun h => absurd h (by decide), by decide⟩
theorem tz_mX9_even : tm_OkM tm_G mX9_even := ⟨rfl, by decide +kernel, tm_in1 (i := 995) (by decide +kernel), tm_in1 (i := 1) (by decide +kernel), by decide +kernel, by decide +kernel, fun h => absurd h (by decide), fun _ => ⟨tm_in1 (i := 993) (by decide +kernel), tm_in1 (i := 994) (by decide +kernel), TX9, 12, rfl⟩, fun h => absurd h (by decide), by decide⟩
theorem tz_mX1_foldsTillEven : tm_OkM tm_G mX1_foldsTillEven := ⟨rfl, by decide +kernel, tm_in1 (i := 999) (by decide +kernel), tm_in1 (i := 2) (by decide +kernel), by decide +kernel, by decide +kernel, fun h => absurd h (by decide), fun _ => ⟨tm_in1 (i := 997) (by decide +kernel), tm_in1 (i := 998) (by decide +kernel), TX1, 3, rfl⟩, fun h => absurd h (by decide), by decide⟩
theorem tz_mX1_spread : tm_OkM tm_G mX1_spread := ⟨rfl, by decide +kernel, tm_in1 (i := 1005) (by decide +kernel), tm_in1 (i := 2) (by decide +kernel), by decide +kernel, by decide +kernel, fun _ => tm_in1 (i := 1004) (by decide +kernel), fun h => absurd h (by decide), fun h => absurd h (by decide), by decide⟩
theorem tz_mX9_colour : tm_OkM tm_G mX9_colour := ⟨rfl, by decide +kernel, tm_in1 (i := 1011) (by decide +kernel), tm_in1 (i := 1) (by decide +kernel), by decide +kernel, by decide +kernel, fun h => absurd h (by decide), fun _ => ⟨tm_in1 (i := 1009) (by decide +kernel), tm_in1 (i := 1010) (by decide +kernel), TX9, 12, rfl⟩, fun h => absurd h (by decide), by decide⟩
theorem tz_mX3_redOf : tm_OkM tm_G mX3_redOf := ⟨rfl, by decide +kernel, tm_in1 (i := 1015) (by decide +kernel), tm_in1 (i := 4) (by decide +kernel), by decide +kernel, by decide +kernel, fun h => absurd h (by decide), fun _ => ⟨tm_in1 (i := 1013) (by decide +kernel), tm_in1 (i := 1014) (by decide +kernel), TX3, 9, rfl⟩, fun h => absurd h (by decide), by decide⟩
theorem tz_mX9_eye : tm_OkM tm_G mX9_eye := ⟨rfl, by decide +kernel, tm_in1 (i := 1019) (by decide +kernel), tm_in1 (i := 1) (by decide +kernel), by decide +kernel, by decide +kernel, fun h => absurd h (by decide), fun _ => ⟨tm_in1 (i := 1017) (by decide +kernel), tm_in1 (i := 1018) (by decide +kernel), TX9, 12, rfl⟩, fun h => absurd h (by decide), by decide⟩
theorem tz_mX8_lookingSo : tm_OkM tm_G mX8_lookingSo := ⟨rfl, by decide +kernel, tm_in1 (i := 1023) (by decide +kernel), tm_in1 (i := 10) (by decide +kernel), by decide +kernel, by decide +kernel, fun h => absurd h (by decide), fun _ => ⟨tm_in1 (i := 1021) (by decide +kernel), tm_in1 (i := 1022) (by decide +kernel), TX8, 3, rfl⟩, fun h => absurd h (by decide), by decide⟩
theorem tz_mX8_crackingByEye : tm_OkM tm_G mX8_crackingByEye := ⟨rfl, by decide +kernel, tm_in1 (i := 1028) (by decide +kernel), tm_in1 (i := 10) (by decide +kernel), by decide +kernel, by decide +kernel, fun h => absurd h (by decide), fun _ => ⟨tm_in1 (i := 1026) (by decide +kernel), tm_in1 (i := 1027) (by decide +kernel), TX8, 3, rfl⟩, fun h => absurd h (by decide), by decide⟩
theorem tz_mX8_cloudedByEye : tm_OkM tm_G mX8_cloudedByEye := ⟨rfl, by decide +kernel, tm_in1 (i := 1032) (by decide +kernel), tm_in1 (i := 10) (by decide +kernel), by decide +kernel, by decide +kernel, fun h => absurd h (by decide), fun _ => ⟨tm_in1 (i := 1030) (by decide +kernel), tm_in1 (i := 1031) (by decide +kernel), TX8, 3, rfl⟩, fun h => absurd h (by decide), by decide⟩
theorem tz_mX9_polish : tm_OkM tm_G mX9_polish := ⟨rfl, by decide +kernel, tm_in1 (i := 1036) (by decide +kernel), tm_in1 (i := 1) (by decide +kernel), by decide +kernel, by decide +kernel, fun h => absurd h (by decide), fun _ => ⟨tm_in1 (i := 1034) (by decide +kernel), tm_in1 (i := 1035) (by decide +kernel), TX9, 12, rfl⟩, fun h => absurd h (by decide), by decide⟩
theorem tz_mX9_shown : tm_OkM tm_G mX9_shown := ⟨rfl, by decide +kernel, tm_in1 (i := 1040) (by decide +kernel), tm_in1 (i := 1) (by decide +kernel), by decide +kernel, by decide +kernel, fun h => absurd h (by decide), fun _ => ⟨tm_in1 (i := 1039) (by decide +kernel), tm_in0 (i := 47) (by decide +kernel), TX9, 12, rfl⟩, fun h => absurd h (by decide), by decide⟩
theorem tz_mX9_isSigns : tm_OkM tm_G mX9_isSigns := ⟨rfl, by decide +kernel, tm_in1 (i := 1043) (by decide +kernel), tm_in1 (i := 1) (by decide +kernel), by decide +kernel, by decide +kernel, fun _ => tm_in1 (i := 1042) (by decide +kernel), fun h => absurd h (by decide), fun h => absurd h (by decide), by decide⟩
theorem tz_mX3_stonesThatShow : tm_OkM tm_G mX3_stonesThatShow := ⟨rfl, by decide +kernel, tm_in1 (i := 1047) (by decide +kernel), tm_in1 (i := 4) (by decide +kernel), by decide +kernel, by decide +kernel, fun h => absurd h (by decide), fun _ => ⟨tm_in1 (i := 1045) (by decide +kernel), tm_in1 (i := 1046) (by decide +kernel), TX3, 9, rfl⟩, fun h => absurd h (by decide), by decide⟩
theorem tz_mX3_daysOf : tm_OkM tm_G mX3_daysOf := ⟨rfl, by decide +kernel, tm_in1 (i := 1051) (by decide +kernel), tm_in1 (i := 4) (by decide +kernel), by decide +kernel, by decide +kernel, fun h => absurd h (by decide), fun _ => ⟨tm_in1 (i := 1049) (by decide +kernel), tm_in1 (i := 1050) (by decide +kernel), TX3, 9, rfl⟩, fun h => absurd h (by decide), by decide⟩
theorem tz_mX3_signsOf : tm_OkM tm_G mX3_signsOf := ⟨rfl, by decide +kernel, tm_in1 (i := 1055) (by decide +kernel), tm_in1 (i := 4) (by decide +kernel), by decide +kernel, by decide +kernel, fun h => absurd h (by decide), fun _ => ⟨tm_in1 (i := 1054) (by decide +kernel), tm_in0 (i := 48) (by decide +kernel), TX3, 9, rfl⟩, fun h => absurd h (by decide), by decide⟩
theorem tz_mX9_stones : tm_OkM tm_G mX9_stones := ⟨rfl, by decide +kernel, tm_in1 (i := 1060) (by decide +kernel), tm_in1 (i := 1) (by decide +kernel), by decide +kernel, by decide +kernel, fun h => absurd h (by decide), fun _ => ⟨tm_in1 (i := 1058) (by decide +kernel), tm_in1 (i := 1059) (by decide +kernel), TX9, 12, rfl⟩, fun h => absurd h (by decide), by decide⟩
theorem tz_mX9_whose : tm_OkM tm_G mX9_whose := ⟨rfl, by decide +kernel, tm_in1 (i := 1064) (by decide +kernel), tm_in1 (i := 1) (by decide +kernel), by decide +kernel, by decide +kernel, fun h => absurd h (by decide), fun _ => ⟨tm_in1 (i := 1062) (by decide +kernel), tm_in1 (i := 1063) (by decide +kernel), TX9, 12, rfl⟩, fun h => absurd h (by decide), by decide⟩
theorem tz_mX3_likeliestSmith : tm_OkM tm_G mX3_likeliestSmith := ⟨rfl, by decide +kernel, tm_in1 (i := 1068) (by decide +kernel), tm_in1 (i := 4) (by decide +kernel), by decide +kernel, by decide +kernel, fun h => absurd h (by decide), fun _ => ⟨tm_in1 (i := 1066) (by decide +kernel), tm_in1 (i := 1067) (by decide +kernel), TX3, 9, rfl⟩, fun h => absurd h (by decide), by decide⟩
theorem tz_mX3_productOf : tm_OkM tm_G mX3_productOf := ⟨rfl, by decide +kernel, tm_in1 (i := 1072) (by decide +kernel), tm_in1 (i := 4) (by decide +kernel), by decide +kernel, by decide +kernel, fun h => absurd h (by decide), fun _ => ⟨tm_in1 (i := 1070) (by decide +kernel), tm_in1 (i := 1071) (by decide +kernel), TX3, 9, rfl⟩, fun h => absurd h (by decide), by decide⟩
theorem tz_mX9_odds : tm_OkM tm_G mX9_odds := ⟨rfl, by decide +kernel, tm_in1 (i := 1076) (by decide +kernel), tm_in1 (i := 1) (by decide +kernel), by decide +kernel, by decide +kernel, fun h => absurd h (by decide), fun _ => ⟨tm_in1 (i := 1074) (by decide +kernel), tm_in1 (i := 1075) (by decide +kernel), TX9, 12, rfl⟩, fun h => absurd h (by decide), by decide⟩
theorem tz_mX3_productOfAll : tm_OkM tm_G mX3_productOfAll := ⟨rfl, by decide +kernel, tm_in1 (i := 1080) (by decide +kernel), tm_in1 (i := 4) (by decide +kernel), by decide +kernel, by decide +kernel, fun h => absurd h (by decide), fun _ => ⟨tm_in1 (i := 1078) (by decide +kernel), tm_in1 (i := 1079) (by decide +kernel), TX3, 9, rfl⟩, fun h => absurd h (by decide), by decide⟩
theorem tz_mX9_learn : tm_OkM tm_G mX9_learn := ⟨rfl, by decide +kernel, tm_in1 (i := 1085) (by decide +kernel), tm_in1 (i := 1) (by decide +kernel), by decide +kernel, by decide +kernel, fun h => absurd h (by decide), fun _ => ⟨tm_in1 (i := 1083) (by decide +kernel), tm_in1 (i := 1084) (by decide +kernel), TX9, 12, rfl⟩, fun h => absurd h (by decide), by decide⟩
theorem tz_mX2_isFull : tm_OkM tm_G mX2_isFull := ⟨rfl, by decide +kernel, tm_in1 (i := 1089) (by decide +kernel), tm_in1 (i := 3) (by decide +kernel), by decide +kernel, by decide +kernel, fun h => absurd h (by decide), fun _ => ⟨tm_in1 (i := 1087) (by decide +kernel), tm_in1 (i := 1088) (by decide +kernel), TX2, 4, rfl⟩, fun h => absurd h (by decide), by decide⟩
theorem tz_mX2_add : tm_OkM tm_G mX2_add := ⟨rfl, by decide +kernel, tm_in1 (i := 1093) (by decide +kernel), tm_in1 (i := 3) (by decide +kernel), by decide +kernel, by decide +kernel, fun h => absurd h (by decide), fun _ => ⟨tm_in1 (i := 1091) (by decide +kernel), tm_in1 (i := 1092) (by decide +kernel), TX2, 4, rfl⟩, fun h => absurd h (by decide), by decide⟩
theorem tz_mX9_next : tm_OkM tm_G mX9_next := ⟨rfl, by decide +kernel, tm_in1 (i := 1098) (by decide +kernel), tm_in1 (i := 1) (by decide +kernel), by decide +kernel, by decide +kernel, fun h => absurd h (by decide), fun _ => ⟨tm_in1 (i := 1096) (by decide +kernel), tm_in1 (i := 1097) (by decide +kernel), TX9, 12, rfl⟩, fun h => absurd h (by decide), by decide⟩
theorem tz_mX2_bestWay : tm_OkM tm_G mX2_bestWay := ⟨rfl, by decide +kernel, tm_in1 (i := 1102) (by decide +kernel), tm_in1 (i := 3) (by decide +kernel), by decide +kernel, by decide +kernel, fun h => absurd h (by decide), fun _ => ⟨tm_in1 (i := 1100) (by decide +kernel), tm_in1 (i := 1101) (by decide +kernel), TX2, 4, rfl⟩, fun h => absurd h (by decide), by decide⟩
theorem tz_mX2_countGains : tm_OkM tm_G mX2_countGains := ⟨rfl, by decide +kernel, tm_in1 (i := 1106) (by decide +kernel), tm_in1 (i := 3) (by decide +kernel), by decide +kernel, by decide +kernel, fun h => absurd h (by decide), fun _ => ⟨tm_in1 (i := 1105) (by decide +kernel), tm_in0 (i := 49) (by decide +kernel), TX2, 4, rfl⟩, fun h => absurd h (by decide), by decide⟩
theorem tz_mX2_wayBetween : tm_OkM tm_G mX2_wayBetween := ⟨rfl, by decide +kernel, tm_in1 (i := 1111) (by decide +kernel), tm_in1 (i := 3) (by decide +kernel), by decide +kernel, by decide +kernel, fun h => absurd h (by decide), fun _ => ⟨tm_in1 (i := 1110) (by decide +kernel), tm_in0 (i := 50) (by decide +kernel), TX2, 4, rfl⟩, fun h => absurd h (by decide), by decide⟩
theorem tz_mJ6_compare_7cf53 : tm_OkM tm_G mJ6_compare_7cf53 := ⟨rfl, by decide +kernel, tm_in1 (i := 1114) (by decide +kernel), tm_in1 (i := 20) (by decide +kernel), by decide +kernel, by decide +kernel, fun _ => tm_in1 (i := 1113) (by decide +kernel), fun h => absurd h (by decide), fun h => absurd h (by decide), by decide⟩
theorem tz_mX9_size : tm_OkM tm_G mX9_size := ⟨rfl, by decide +kernel, tm_in1 (i := 1118) (by decide +kernel), tm_in1 (i := 1) (by decide +kernel), by decide +kernel, by decide +kernel, fun h => absurd h (by decide), fun _ => ⟨tm_in1 (i := 1116) (by decide +kernel), tm_in1 (i := 1117) (by decide +kernel), TX9, 12, rfl⟩, fun h => absurd h (by decide), by decide⟩
theorem tz_mX4_cuts : tm_OkM tm_G mX4_cuts := ⟨rfl, by decide +kernel, tm_in1 (i := 1122) (by decide +kernel), tm_in1 (i := 9) (by decide +kernel), by decide +kernel, by decide +kernel, fun h => absurd h (by decide), fun _ => ⟨tm_in1 (i := 1120) (by decide +kernel), tm_in1 (i := 1121) (by decide +kernel), TX4, 18, rfl⟩, fun h => absurd h (by decide), by decide⟩
theorem tz_mX4_turned : tm_OkM tm_G mX4_turned := ⟨rfl, by decide +kernel, tm_in1 (i := 1126) (by decide +kernel), tm_in1 (i := 9) (by decide +kernel), by decide +kernel, by decide +kernel, fun h => absurd h (by decide), fun _ => ⟨tm_in1 (i := 1124) (by decide +kernel), tm_in1 (i := 1125) (by decide +kernel), TX4, 18, rfl⟩, fun h => absurd h (by decide), by decide⟩
theorem tz_mX2_count : tm_OkM tm_G mX2_count := ⟨rfl, by decide +kernel, tm_in1 (i := 1130) (by decide +kernel), tm_in1 (i := 3) (by decide +kernel), by decide +kernel, by decide +kernel, fun h => absurd h (by decide), fun _ => ⟨tm_in1 (i := 1128) (by decide +kernel), tm_in1 (i := 1129) (by decide +kernel), TX2, 4, rfl⟩, fun h => absurd h (by decide), by decide⟩
theorem tz_mX9_linesTold : tm_OkM tm_G mX9_linesTold := ⟨rfl, by decide +kernel, tm_in1 (i := 1135) (by decide +kernel), tm_in1 (i := 1) (by decide +kernel), by decide +kernel, by decide +kernel, fun h => absurd h (by decide), fun _ => ⟨tm_in1 (i := 1134) (by decide +kernel), tm_in0 (i := 51) (by decide +kernel), TX9, 12, rfl⟩, fun h => absurd h (by decide), by decide⟩
theorem tz_mX9_trouble : tm_OkM tm_G mX9_trouble := ⟨rfl, by decide +kernel, tm_in1 (i := 1139) (by decide +kernel), tm_in1 (i := 1) (by decide +kernel), by decide +kernel, by decide +kernel, fun h => absurd h (by decide), fun _ => ⟨tm_in1 (i := 1137) (by decide +kernel), tm_in1 (i := 1138) (by decide +kernel), TX9, 12, rfl⟩, fun h => absurd h (by decide), by decide⟩
theorem tz_mX9_led : tm_OkM tm_G mX9_led := ⟨rfl, by decide +kernel, tm_in1 (i := 1147) (by decide +kernel), tm_in1 (i := 1) (by decide +kernel), by decide +kernel, by decide +kernel, fun h => absurd h (by decide), fun _ => ⟨tm_in1 (i := 1145) (by decide +kernel), tm_in1 (i := 1146) (by decide +kernel), TX9, 12, rfl⟩, fun h => absurd h (by decide), by decide⟩
theorem tz_mX4_turnedCell : tm_OkM tm_G mX4_turnedCell := ⟨rfl, by decide +kernel, tm_in1 (i := 1212) (by decide +kernel), tm_in1 (i := 9) (by decide +kernel), by decide +kernel, by decide +kernel, fun h => absurd h (by decide), fun _ => ⟨tm_in1 (i := 1210) (by decide +kernel), tm_in1 (i := 1211) (by decide +kernel), TX4, 18, rfl⟩, fun h => absurd h (by decide), by decide⟩
theorem tz_mX11_init : tm_OkM tm_G mX11_init := ⟨rfl, by decide +kernel, tm_in1 (i := 1217) (by decide +kernel), tm_in1 (i := 11) (by decide +kernel), by decide +kernel, by decide +kernel, fun h => absurd h (by decide), fun h => absurd h (by decide), fun _ => ⟨rfl, tm_in1 (i := 1216) (by decide +kernel), rfl⟩, by decide⟩
theorem tz_mX11_thrown : tm_OkM tm_G mX11_thrown := ⟨rfl, by decide +kernel, tm_in1 (i := 1328) (by decide +kernel), tm_in1 (i := 11) (by decide +kernel), by decide +kernel, by decide +kernel, fun h => absurd h (by decide), fun _ => ⟨tm_in1 (i := 1326) (by decide +kernel), tm_in1 (i := 1327) (by decide +kernel), TX11, 35, rfl⟩, fun h => absurd h (by decide), by decide⟩
theorem tz_mX11_feed : tm_OkM tm_G mX11_feed := ⟨rfl, by decide +kernel, tm_in1 (i := 1332) (by decide +kernel), tm_in1 (i := 11) (by decide +kernel), by decide +kernel, by decide +kernel, fun h => absurd h (by decide), fun _ => ⟨tm_in1 (i := 1330) (by decide +kernel), tm_in1 (i := 1331) (by decide +kernel), TX11, 35, rfl⟩, fun h => absurd h (by decide), by decide⟩
theorem tz_mX11_book : tm_OkM tm_G mX11_book := ⟨rfl, by decide +kernel, tm_in1 (i := 1336) (by decide +kernel), tm_in1 (i := 11) (by decide +kernel), by decide +kernel, by decide +kernel, fun h => absurd h (by decide), fun _ => ⟨tm_in1 (i := 1334) (by decide +kernel), tm_in1 (i := 1335) (by decide +kernel), TX11, 35, rfl⟩, fun h => absurd h (by decide), by decide⟩
theorem tz_mX11_refused : tm_OkM tm_G mX11_refused := ⟨rfl, by decide +kernel, tm_in1 (i := 1340) (by decide +kernel), tm_in1 (i := 11) (by decide +kernel), by decide +kernel, by decide +kernel, fun h => absurd h (by decide), fun _ => ⟨tm_in1 (i := 1339) (by decide +kernel), tm_in0 (i := 53) (by decide +kernel), TX11, 35, rfl⟩, fun h => absurd h (by decide), by decide⟩
theorem tz_mX10_init : tm_OkM tm_G mX10_init := ⟨rfl, by decide +kernel, tm_in1 (i := 1345) (by decide +kernel), tm_in1 (i := 18) (by decide +kernel), by decide +kernel, by decide +kernel, fun h => absurd h (by decide), fun h => absurd h (by decide), fun _ => ⟨rfl, tm_in1 (i := 1344) (by decide +kernel), rfl⟩, by decide⟩
theorem tz_mX11_goesOn : tm_OkM tm_G mX11_goesOn := ⟨rfl, by decide +kernel, tm_in1 (i := 1445) (by decide +kernel), tm_in1 (i := 11) (by decide +kernel), by decide +kernel, by decide +kernel, fun h => absurd h (by decide), fun _ => ⟨tm_in1 (i := 1444) (by decide +kernel), tm_in0 (i := 54) (by decide +kernel), TX11, 35, rfl⟩, fun h => absurd h (by decide), by decide⟩
theorem tz_mX11_byteAt : tm_OkM tm_G mX11_byteAt := ⟨rfl, by decide +kernel, tm_in1 (i := 1449) (by decide +kernel), tm_in1 (i := 11) (by decide +kernel), by decide +kernel, by decide +kernel, fun h => absurd h (by decide), fun _ => ⟨tm_in1 (i := 1448) (by decide +kernel), tm_in0 (i := 55) (by decide +kernel), TX11, 35, rfl⟩, fun h => absurd h (by decide), by decide⟩
theorem tz_mX11_isLetter : tm_OkM tm_G mX11_isLetter := ⟨rfl, by decide +kernel, tm_in1 (i := 1452) (by decide +kernel), tm_in1 (i := 11) (by decide +kernel), by decide +kernel, by decide +kernel, fun _ => tm_in1 (i := 1451) (by decide +kernel), fun h => absurd h (by decide), fun h => absurd h (by decide), by decide⟩
theorem tz_mX11_isDigit : tm_OkM tm_G mX11_isDigit := ⟨rfl, by decide +kernel, tm_in1 (i := 1456) (by decide +kernel), tm_in1 (i := 11) (by decide +kernel), by decide +kernel, by decide +kernel, fun _ => tm_in1 (i := 1455) (by decide +kernel), fun h => absurd h (by decide), fun h => absurd h (by decide), by decide⟩
theorem tz_mX11_readBook : tm_OkM tm_G mX11_readBook := ⟨rfl, by decide +kernel, tm_in1 (i := 1460) (by decide +kernel), tm_in1 (i := 11) (by decide +kernel), by decide +kernel, by decide +kernel, fun h => absurd h (by decide), fun _ => ⟨tm_in1 (i := 1459) (by decide +kernel), tm_in0 (i := 56) (by decide +kernel), TX11, 35, rfl⟩, fun h => absurd h (by decide), by decide⟩
theorem tz_mX11_readLine : tm_OkM tm_G mX11_readLine := ⟨rfl, by decide +kernel, tm_in1 (i := 1464) (by decide +kernel), tm_in1 (i := 11) (by decide +kernel), by decide +kernel, by decide +kernel, fun h => absurd h (by decide), fun _ => ⟨tm_in1 (i := 1463) (by decide +kernel), tm_in0 (i := 57) (by decide +kernel), TX11, 35, rfl⟩, fun h => absurd h (by decide), by decide⟩
theorem tz_mX11_isWord : tm_OkM tm_G mX11_isWord := ⟨rfl, by decide +kernel, tm_in1 (i := 1469) (by decide +kernel), tm_in1 (i := 11) (by decide +kernel), by decide +kernel, by decide +kernel, fun h => absurd h (by decide), fun _ => ⟨tm_in1 (i := 1468) (by decide +kernel), tm_in0 (i := 58) (by decide +kernel), TX11, 35, rfl⟩, fun h => absurd h (by decide), by decide⟩
theorem tz_mX11_wordOf : tm_OkM tm_G mX11_wordOf := ⟨rfl, by decide +kernel, tm_in1 (i := 1472) (by decide +kernel), tm_in1 (i := 11) (by decide +kernel), by decide +kernel, by decide +kernel, fun _ => tm_in1 (i := 1471) (by decide +kernel), fun h => absurd h (by decide), fun h => absurd h (by decide), by decide⟩
theorem tz_mX11_readBar : tm_OkM tm_G mX11_readBar := ⟨rfl, by decide +kernel, tm_in1 (i := 1478) (by decide +kernel), tm_in1 (i := 11) (by decide +kernel), by decide +kernel, by decide +kernel, fun h => absurd h (by decide), fun _ => ⟨tm_in1 (i := 1477) (by decide +kernel), tm_in0 (i := 59) (by decide +kernel), TX11, 35, rfl⟩, fun h => absurd h (by decide), by decide⟩
theorem tz_mX11_wrong : tm_OkM tm_G mX11_wrong := ⟨rfl, by decide +kernel, tm_in1 (i := 1482) (by decide +kernel), tm_in1 (i := 11) (by decide +kernel), by decide +kernel, by decide +kernel, fun h => absurd h (by decide), fun _ => ⟨tm_in1 (i := 1481) (by decide +kernel), tm_in0 (i := 60) (by decide +kernel), TX11, 35, rfl⟩, fun h => absurd h (by decide), by decide⟩
theorem tz_mX11_wrongHere : tm_OkM tm_G mX11_wrongHere := ⟨rfl, by decide +kernel, tm_in1 (i := 1486) (by decide +kernel), tm_in1 (i := 11) (by decide +kernel), by decide +kernel, by decide +kernel, fun h => absurd h (by decide), fun _ => ⟨tm_in1 (i := 1485) (by decide +kernel), tm_in0 (i := 61) (by decide +kernel), TX11, 35, rfl⟩, fun h => absurd h (by decide), by decide⟩
theorem tz_mX11_readPart : tm_OkM tm_G mX11_readPart := ⟨rfl, by decide +kernel, tm_in1 (i := 1491) (by decide +kernel), tm_in1 (i := 11) (by decide +kernel), by decide +kernel, by decide +kernel, fun h => absurd h (by decide), fun _ => ⟨tm_in1 (i := 1490) (by decide +kernel), tm_in0 (i := 62) (by decide +kernel), TX11, 35, rfl⟩, fun h => absurd h (by decide), by decide⟩
theorem tz_mX11_readWhole : tm_OkM tm_G mX11_readWhole := ⟨rfl, by decide +kernel, tm_in1 (i := 1495) (by decide +kernel), tm_in1 (i := 11) (by decide +kernel), by decide +kernel, by decide +kernel, fun h => absurd h (by decide), fun _ => ⟨tm_in1 (i := 1494) (by decide +kernel), tm_in0 (i := 63) (by decide +kernel), TX11, 35, rfl⟩, fun h => absurd h (by decide), by decide⟩
theorem tz_mX11_in : tm_OkM tm_G mX11_in := ⟨rfl, by decide +kernel, tm_in1 (i := 1498) (by decide +kernel), tm_in1 (i := 11) (by decide +kernel), by decide +kernel, by decide +kernel, fun _ => tm_in1 (i := 1497) (by decide +kernel), fun h => absurd h (by decide), fun h => absurd h (by decide), by decide⟩
theorem tz_mX11_readWater : tm_OkM tm_G mX11_readWater := ⟨rfl, by decide +kernel, tm_in1 (i := 1504) (by decide +kernel), tm_in1 (i := 11) (by decide +kernel), by decide +kernel, by decide +kernel, fun h => absurd h (by decide), fun _ => ⟨tm_in1 (i := 1503) (by decide +kernel), tm_in0 (i := 64) (by decide +kernel), TX11, 35, rfl⟩, fun h => absurd h (by decide), by decide⟩
theorem tz_mX11_readKind : tm_OkM tm_G mX11_readKind := ⟨rfl, by decide +kernel, tm_in1 (i := 1513) (by decide +kernel), tm_in1 (i := 11) (by decide +kernel), by decide +kernel, by decide +kernel, fun h => absurd h (by decide), fun _ => ⟨tm_in1 (i := 1512) (by decide +kernel), tm_in0 (i := 65) (by decide +kernel), TX11, 35, rfl⟩, fun h => absurd h (by decide), by decide⟩
theorem tz_mX11_readNamed : tm_OkM tm_G mX11_readNamed := ⟨rfl, by decide +kernel, tm_in1 (i := 1517) (by decide +kernel), tm_in1 (i := 11) (by decide +kernel), by decide +kernel, by decide +kernel, fun h => absurd h (by decide), fun _ => ⟨tm_in1 (i := 1516) (by decide +kernel), tm_in0 (i := 66) (by decide +kernel), TX11, 35, rfl⟩, fun h => absurd h (by decide), by decide⟩
theorem tz_mX11_isName : tm_OkM tm_G mX11_isName := ⟨rfl, by decide +kernel, tm_in1 (i := 1521) (by decide +kernel), tm_in1 (i := 11) (by decide +kernel), by decide +kernel, by decide +kernel, fun h => absurd h (by decide), fun _ => ⟨tm_in1 (i := 1520) (by decide +kernel), tm_in0 (i := 67) (by decide +kernel), TX11, 35, rfl⟩, fun h => absurd h (by decide), by decide⟩
theorem tz_mX10_find : tm_OkM tm_G mX10_find := ⟨rfl, by decide +kernel, tm_in1 (i := 1529) (by decide +kernel), tm_in1 (i := 18) (by decide +kernel), by decide +kernel, by decide +kernel, fun h => absurd h (by decide), fun _ => ⟨tm_in1 (i := 1527) (by decide +kernel), tm_in1 (i := 1528) (by decide +kernel), TX10, 26, rfl⟩, fun h => absurd h (by decide), by decide⟩
theorem tz_mX11_readTurn : tm_OkM tm_G mX11_readTurn := ⟨rfl, by decide +kernel, tm_in1 (i := 1536) (by decide +kernel), tm_in1 (i := 11) (by decide +kernel), by decide +kernel, by decide +kernel, fun h => absurd h (by decide), fun _ => ⟨tm_in1 (i := 1535) (by decide +kernel), tm_in0 (i := 68) (by decide +kernel), TX11, 35, rfl⟩, fun h => absurd h (by decide), by decide⟩
theorem tz_mX11_readRed : tm_OkM tm_G mX11_readRed := ⟨rfl, by decide +kernel, tm_in1 (i := 1542) (by decide +kernel), tm_in1 (i := 11) (by decide +kernel), by decide +kernel, by decide +kernel, fun h => absurd h (by decide), fun _ => ⟨tm_in1 (i := 1541) (by decide +kernel), tm_in0 (i := 69) (by decide +kernel), TX11, 35, rfl⟩, fun h => absurd h (by decide), by decide⟩
theorem tz_mX11_readStone : tm_OkM tm_G mX11_readStone := ⟨rfl, by decide +kernel, tm_in1 (i := 1547) (by decide +kernel), tm_in1 (i := 11) (by decide +kernel), by decide +kernel, by decide +kernel, fun h => absurd h (by decide), fun _ => ⟨tm_in1 (i := 1546) (by decide +kernel), tm_in0 (i := 70) (by decide +kernel), TX11, 35, rfl⟩, fun h => absurd h (by decide), by decide⟩
theorem tz_mX11_eatsComma : tm_OkM tm_G mX11_eatsComma := ⟨rfl, by decide +kernel, tm_in1 (i := 1553) (by decide +kernel), tm_in1 (i := 11) (by decide +kernel), by decide +kernel, by decide +kernel, fun h => absurd h (by decide), fun _ => ⟨tm_in1 (i := 1552) (by decide +kernel), tm_in0 (i := 71) (by decide +kernel), TX11, 35, rfl⟩, fun h => absurd h (by decide), by decide⟩
theorem tz_mX11_is : tm_OkM tm_G mX11_is := ⟨rfl, by decide +kernel, tm_in1 (i := 1557) (by decide +kernel), tm_in1 (i := 11) (by decide +kernel), by decide +kernel, by decide +kernel, fun h => absurd h (by decide), fun _ => ⟨tm_in1 (i := 1556) (by decide +kernel), tm_in0 (i := 72) (by decide +kernel), TX11, 35, rfl⟩, fun h => absurd h (by decide), by decide⟩
theorem tz_mX11_readSmith : tm_OkM tm_G mX11_readSmith := ⟨rfl, by decide +kernel, tm_in1 (i := 1561) (by decide +kernel), tm_in1 (i := 11) (by decide +kernel), by decide +kernel, by decide +kernel, fun h => absurd h (by decide), fun _ => ⟨tm_in1 (i := 1560) (by decide +kernel), tm_in0 (i := 73) (by decide +kernel), TX11, 35, rfl⟩, fun h => absurd h (by decide), by decide⟩
theorem tz_mX11_begins : tm_OkM tm_G mX11_begins := ⟨rfl, by decide +kernel, tm_in1 (i := 1565) (by decide +kernel), tm_in1 (i := 11) (by decide +kernel), by decide +kernel, by decide +kernel, fun h => absurd h (by decide), fun _ => ⟨tm_in1 (i := 1564) (by decide +kernel), tm_in0 (i := 74) (by decide +kernel), TX11, 35, rfl⟩, fun h => absurd h (by decide), by decide⟩
theorem tz_mX11_done : tm_OkM tm_G mX11_done := ⟨rfl, by decide +kernel, tm_in1 (i := 1569) (by decide +kernel), tm_in1 (i := 11) (by decide +kernel), by decide +kernel, by decide +kernel, fun h => absurd h (by decide), fun _ => ⟨tm_in1 (i := 1568) (by decide +kernel), tm_in0 (i := 75) (by decide +kernel), TX11, 35, rfl⟩, fun h => absurd h (by decide), by decide⟩
theorem tz_mX11_fault : tm_OkM tm_G mX11_fault := ⟨rfl, by decide +kernel, tm_in1 (i := 1573) (by decide +kernel), tm_in1 (i := 11) (by decide +kernel), by decide +kernel, by decide +kernel, fun h => absurd h (by decide), fun _ => ⟨tm_in1 (i := 1571) (by decide +kernel), tm_in1 (i := 1572) (by decide +kernel), TX11, 35, rfl⟩, fun h => absurd h (by decide), by decide⟩
theorem tz_mX11_where : tm_OkM tm_G mX11_where := ⟨rfl, by decide +kernel, tm_in1 (i := 1577) (by decide +kernel), tm_in1 (i := 11) (by decide +kernel), by decide +kernel, by decide +kernel, fun h => absurd h (by decide), fun _ => ⟨tm_in1 (i := 1575) (by decide +kernel), tm_in1 (i := 1576) (by decide +kernel), TX11, 35, rfl⟩, fun h => absurd h (by decide), by decide⟩
theorem tz_mX11_heat : tm_OkM tm_G mX11_heat := ⟨rfl, by decide +kernel, tm_in1 (i := 1581) (by decide +kernel), tm_in1 (i := 11) (by decide +kernel), by decide +kernel, by decide +kernel, fun h => absurd h (by decide), fun _ => ⟨tm_in1 (i := 1579) (by decide +kernel), tm_in1 (i := 1580) (by decide +kernel), TX11, 35, rfl⟩, fun h => absurd h (by decide), by decide⟩
theorem tz_mX11_denied : tm_OkM tm_G mX11_denied := ⟨rfl, by decide +kernel, tm_in1 (i := 1585) (by decide +kernel), tm_in1 (i := 11) (by decide +kernel), by decide +kernel, by decide +kernel, fun h => absurd h (by decide), fun _ => ⟨tm_in1 (i := 1584) (by decide +kernel), tm_in0 (i := 76) (by decide +kernel), TX11, 35, rfl⟩, fun h => absurd h (by decide), by decide⟩
theorem tz_mX11_granted : tm_OkM tm_G mX11_granted := ⟨rfl, by decide +kernel, tm_in1 (i := 1589) (by decide +kernel), tm_in1 (i := 11) (by decide +kernel), by decide +kernel, by decide +kernel, fun h => absurd h (by decide), fun _ => ⟨tm_in1 (i := 1588) (by decide +kernel), tm_in0 (i := 77) (by decide +kernel), TX11, 35, rfl⟩, fun h => absurd h (by decide), by decide⟩
theorem tz_mX11_clay : tm_OkM tm_G mX11_clay := ⟨rfl, by decide +kernel, tm_in1 (i := 1593) (by decide +kernel), tm_in1 (i := 11) (by decide +kernel), by decide +kernel, by decide +kernel, fun h => absurd h (by decide), fun _ => ⟨tm_in1 (i := 1591) (by decide +kernel), tm_in1 (i := 1592) (by decide +kernel), TX11, 35, rfl⟩, fun h => absurd h (by decide), by decide⟩
theorem tz_mX11_isCell : tm_OkM tm_G mX11_isCell := ⟨rfl, by decide +kernel, tm_in1 (i := 1597) (by decide +kernel), tm_in1 (i := 11) (by decide +kernel), by decide +kernel, by decide +kernel, fun h => absurd h (by decide), fun _ => ⟨tm_in1 (i := 1596) (by decide +kernel), tm_in0 (i := 78) (by decide +kernel), TX11, 35, rfl⟩, fun h => absurd h (by decide), by decide⟩
theorem tz_mX11_go : tm_OkM tm_G mX11_go := ⟨rfl, by decide +kernel, tm_in1 (i := 1601) (by decide +kernel), tm_in1 (i := 11) (by decide +kernel), by decide +kernel, by decide +kernel, fun h => absurd h (by decide), fun _ => ⟨tm_in1 (i := 1599) (by decide +kernel), tm_in1 (i := 1600) (by decide +kernel), TX11, 35, rfl⟩, fun h => absurd h (by decide), by decide⟩
theorem tz_mX11_passes : tm_OkM tm_G mX11_passes := ⟨rfl, by decide +kernel, tm_in1 (i := 1605) (by decide +kernel), tm_in1 (i := 11) (by decide +kernel), by decide +kernel, by decide +kernel, fun h => absurd h (by decide), fun _ => ⟨tm_in1 (i := 1604) (by decide +kernel), tm_in0 (i := 79) (by decide +kernel), TX11, 35, rfl⟩, fun h => absurd h (by decide), by decide⟩
theorem tz_mX11_cools : tm_OkM tm_G mX11_cools := ⟨rfl, by decide +kernel, tm_in1 (i := 1609) (by decide +kernel), tm_in1 (i := 11) (by decide +kernel), by decide +kernel, by decide +kernel, fun h => absurd h (by decide), fun _ => ⟨tm_in1 (i := 1608) (by decide +kernel), tm_in0 (i := 80) (by decide +kernel), TX11, 35, rfl⟩, fun h => absurd h (by decide), by decide⟩
theorem tz_mX11_cooled : tm_OkM tm_G mX11_cooled := ⟨rfl, by decide +kernel, tm_in1 (i := 1613) (by decide +kernel), tm_in1 (i := 11) (by decide +kernel), by decide +kernel, by decide +kernel, fun h => absurd h (by decide), fun _ => ⟨tm_in1 (i := 1612) (by decide +kernel), tm_in0 (i := 81) (by decide +kernel), TX11, 35, rfl⟩, fun h => absurd h (by decide), by decide⟩
theorem tz_mX11_flows : tm_OkM tm_G mX11_flows := ⟨rfl, by decide +kernel, tm_in1 (i := 1617) (by decide +kernel), tm_in1 (i := 11) (by decide +kernel), by decide +kernel, by decide +kernel, fun h => absurd h (by decide), fun _ => ⟨tm_in1 (i := 1616) (by decide +kernel), tm_in0 (i := 82) (by decide +kernel), TX11, 35, rfl⟩, fun h => absurd h (by decide), by decide⟩
theorem tz_mX11_turnsTo : tm_OkM tm_G mX11_turnsTo := ⟨rfl, by decide +kernel, tm_in1 (i := 1621) (by decide +kernel), tm_in1 (i := 11) (by decide +kernel), by decide +kernel, by decide +kernel, fun h => absurd h (by decide), fun _ => ⟨tm_in1 (i := 1620) (by decide +kernel), tm_in0 (i := 83) (by decide +kernel), TX11, 35, rfl⟩, fun h => absurd h (by decide), by decide⟩
theorem tz_mX11_bendOf : tm_OkM tm_G mX11_bendOf := ⟨rfl, by decide +kernel, tm_in1 (i := 1625) (by decide +kernel), tm_in1 (i := 11) (by decide +kernel), by decide +kernel, by decide +kernel, fun h => absurd h (by decide), fun _ => ⟨tm_in1 (i := 1624) (by decide +kernel), tm_in0 (i := 84) (by decide +kernel), TX11, 35, rfl⟩, fun h => absurd h (by decide), by decide⟩
theorem tz_mX11_curveOf : tm_OkM tm_G mX11_curveOf := ⟨rfl, by decide +kernel, tm_in1 (i := 1629) (by decide +kernel), tm_in1 (i := 11) (by decide +kernel), by decide +kernel, by decide +kernel, fun h => absurd h (by decide), fun _ => ⟨tm_in1 (i := 1628) (by decide +kernel), tm_in0 (i := 85) (by decide +kernel), TX11, 35, rfl⟩, fun h => absurd h (by decide), by decide⟩
theorem tz_mX11_sizeOf : tm_OkM tm_G mX11_sizeOf := ⟨rfl, by decide +kernel, tm_in1 (i := 1633) (by decide +kernel), tm_in1 (i := 11) (by decide +kernel), by decide +kernel, by decide +kernel, fun h => absurd h (by decide), fun _ => ⟨tm_in1 (i := 1632) (by decide +kernel), tm_in0 (i := 86) (by decide +kernel), TX11, 35, rfl⟩, fun h => absurd h (by decide), by decide⟩
theorem tz_mX10_spread : tm_OkM tm_G mX10_spread := ⟨rfl, by decide +kernel, tm_in1 (i := 1637) (by decide +kernel), tm_in1 (i := 18) (by decide +kernel), by decide +kernel, by decide +kernel, fun h => absurd h (by decide), fun _ => ⟨tm_in1 (i := 1635) (by decide +kernel), tm_in1 (i := 1636) (by decide +kernel), TX10, 26, rfl⟩, fun h => absurd h (by decide), by decide⟩
theorem tz_mX11_cracks : tm_OkM tm_G mX11_cracks := ⟨rfl, by decide +kernel, tm_in1 (i := 1641) (by decide +kernel), tm_in1 (i := 11) (by decide +kernel), by decide +kernel, by decide +kernel, fun h => absurd h (by decide), fun _ => ⟨tm_in1 (i := 1640) (by decide +kernel), tm_in0 (i := 87) (by decide +kernel), TX11, 35, rfl⟩, fun h => absurd h (by decide), by decide⟩
theorem tz_mX11_pullOf : tm_OkM tm_G mX11_pullOf := ⟨rfl, by decide +kernel, tm_in1 (i := 1645) (by decide +kernel), tm_in1 (i := 11) (by decide +kernel), by decide +kernel, by decide +kernel, fun h => absurd h (by decide), fun _ => ⟨tm_in1 (i := 1644) (by decide +kernel), tm_in0 (i := 88) (by decide +kernel), TX11, 35, rfl⟩, fun h => absurd h (by decide), by decide⟩
theorem tz_mX10_wholePull : tm_OkM tm_G mX10_wholePull := ⟨rfl, by decide +kernel, tm_in1 (i := 1649) (by decide +kernel), tm_in1 (i := 18) (by decide +kernel), by decide +kernel, by decide +kernel, fun h => absurd h (by decide), fun _ => ⟨tm_in1 (i := 1647) (by decide +kernel), tm_in1 (i := 1648) (by decide +kernel), TX10, 26, rfl⟩, fun h => absurd h (by decide), by decide⟩
theorem tz_mX10_squares : tm_OkM tm_G mX10_squares := ⟨rfl, by decide +kernel, tm_in1 (i := 1653) (by decide +kernel), tm_in1 (i := 18) (by decide +kernel), by decide +kernel, by decide +kernel, fun h => absurd h (by decide), fun _ => ⟨tm_in1 (i := 1651) (by decide +kernel), tm_in1 (i := 1652) (by decide +kernel), TX10, 26, rfl⟩, fun h => absurd h (by decide), by decide⟩
theorem tz_mX11_again : tm_OkM tm_G mX11_again := ⟨rfl, by decide +kernel, tm_in1 (i := 1659) (by decide +kernel), tm_in1 (i := 11) (by decide +kernel), by decide +kernel, by decide +kernel, fun h => absurd h (by decide), fun _ => ⟨tm_in1 (i := 1657) (by decide +kernel), tm_in1 (i := 1658) (by decide +kernel), TX11, 35, rfl⟩, fun h => absurd h (by decide), by decide⟩
theorem tz_mX11_cell : tm_OkM tm_G mX11_cell := ⟨rfl, by decide +kernel, tm_in1 (i := 1663) (by decide +kernel), tm_in1 (i := 11) (by decide +kernel), by decide +kernel, by decide +kernel, fun h => absurd h (by decide), fun _ => ⟨tm_in1 (i := 1661) (by decide +kernel), tm_in1 (i := 1662) (by decide +kernel), TX11, 35, rfl⟩, fun h => absurd h (by decide), by decide⟩
theorem tz_mX11_pull : tm_OkM tm_G mX11_pull := ⟨rfl, by decide +kernel, tm_in1 (i := 1667) (by decide +kernel), tm_in1 (i := 11) (by decide +kernel), by decide +kernel, by decide +kernel, fun h => absurd h (by decide), fun _ => ⟨tm_in1 (i := 1665) (by decide +kernel), tm_in1 (i := 1666) (by decide +kernel), TX11, 35, rfl⟩, fun h => absurd h (by decide), by decide⟩
theorem tz_mX11_lost : tm_OkM tm_G mX11_lost := ⟨rfl, by decide +kernel, tm_in1 (i := 1671) (by decide +kernel), tm_in1 (i := 11) (by decide +kernel), by decide +kernel, by decide +kernel, fun h => absurd h (by decide), fun _ => ⟨tm_in1 (i := 1670) (by decide +kernel), tm_in0 (i := 89) (by decide +kernel), TX11, 35, rfl⟩, fun h => absurd h (by decide), by decide⟩
theorem tz_mX11_curve : tm_OkM tm_G mX11_curve := ⟨rfl, by decide +kernel, tm_in1 (i := 1676) (by decide +kernel), tm_in1 (i := 11) (by decide +kernel), by decide +kernel, by decide +kernel, fun h => absurd h (by decide), fun _ => ⟨tm_in1 (i := 1674) (by decide +kernel), tm_in1 (i := 1675) (by decide +kernel), TX11, 35, rfl⟩, fun h => absurd h (by decide), by decide⟩
theorem tz_mX11_isCut : tm_OkM tm_G mX11_isCut := ⟨rfl, by decide +kernel, tm_in1 (i := 1680) (by decide +kernel), tm_in1 (i := 11) (by decide +kernel), by decide +kernel, by decide +kernel, fun h => absurd h (by decide), fun _ => ⟨tm_in1 (i := 1679) (by decide +kernel), tm_in0 (i := 90) (by decide +kernel), TX11, 35, rfl⟩, fun h => absurd h (by decide), by decide⟩
theorem tz_mX11_gone : tm_OkM tm_G mX11_gone := ⟨rfl, by decide +kernel, tm_in1 (i := 1684) (by decide +kernel), tm_in1 (i := 11) (by decide +kernel), by decide +kernel, by decide +kernel, fun h => absurd h (by decide), fun _ => ⟨tm_in1 (i := 1683) (by decide +kernel), tm_in0 (i := 91) (by decide +kernel), TX11, 35, rfl⟩, fun h => absurd h (by decide), by decide⟩
theorem tz_mX11_bend : tm_OkM tm_G mX11_bend := ⟨rfl, by decide +kernel, tm_in1 (i := 1689) (by decide +kernel), tm_in1 (i := 11) (by decide +kernel), by decide +kernel, by decide +kernel, fun h => absurd h (by decide), fun _ => ⟨tm_in1 (i := 1687) (by decide +kernel), tm_in1 (i := 1688) (by decide +kernel), TX11, 35, rfl⟩, fun h => absurd h (by decide), by decide⟩
theorem tz_mX11_crack : tm_OkM tm_G mX11_crack := ⟨rfl, by decide +kernel, tm_in1 (i := 1693) (by decide +kernel), tm_in1 (i := 11) (by decide +kernel), by decide +kernel, by decide +kernel, fun h => absurd h (by decide), fun _ => ⟨tm_in1 (i := 1691) (by decide +kernel), tm_in1 (i := 1692) (by decide +kernel), TX11, 35, rfl⟩, fun h => absurd h (by decide), by decide⟩
theorem tz_mX11_cold : tm_OkM tm_G mX11_cold := ⟨rfl, by decide +kernel, tm_in1 (i := 1697) (by decide +kernel), tm_in1 (i := 11) (by decide +kernel), by decide +kernel, by decide +kernel, fun h => absurd h (by decide), fun _ => ⟨tm_in1 (i := 1695) (by decide +kernel), tm_in1 (i := 1696) (by decide +kernel), TX11, 35, rfl⟩, fun h => absurd h (by decide), by decide⟩
theorem tz_mX11_cloud : tm_OkM tm_G mX11_cloud := ⟨rfl, by decide +kernel, tm_in1 (i := 1701) (by decide +kernel), tm_in1 (i := 11) (by decide +kernel), by decide +kernel, by decide +kernel, fun h => absurd h (by decide), fun _ => ⟨tm_in1 (i := 1699) (by decide +kernel), tm_in1 (i := 1700) (by decide +kernel), TX11, 35, rfl⟩, fun h => absurd h (by decide), by decide⟩
theorem tz_mX11_cloudOf : tm_OkM tm_G mX11_cloudOf := ⟨rfl, by decide +kernel, tm_in1 (i := 1705) (by decide +kernel), tm_in1 (i := 11) (by decide +kernel), by decide +kernel, by decide +kernel, fun h => absurd h (by decide), fun _ => ⟨tm_in1 (i := 1704) (by decide +kernel), tm_in0 (i := 92) (by decide +kernel), TX11, 35, rfl⟩, fun h => absurd h (by decide), by decide⟩
theorem tz_mX11_chip : tm_OkM tm_G mX11_chip := ⟨rfl, by decide +kernel, tm_in1 (i := 1709) (by decide +kernel), tm_in1 (i := 11) (by decide +kernel), by decide +kernel, by decide +kernel, fun h => absurd h (by decide), fun _ => ⟨tm_in1 (i := 1707) (by decide +kernel), tm_in1 (i := 1708) (by decide +kernel), TX11, 35, rfl⟩, fun h => absurd h (by decide), by decide⟩
theorem tz_mX11_aim : tm_OkM tm_G mX11_aim := ⟨rfl, by decide +kernel, tm_in1 (i := 1713) (by decide +kernel), tm_in1 (i := 11) (by decide +kernel), by decide +kernel, by decide +kernel, fun h => absurd h (by decide), fun _ => ⟨tm_in1 (i := 1711) (by decide +kernel), tm_in1 (i := 1712) (by decide +kernel), TX11, 35, rfl⟩, fun h => absurd h (by decide), by decide⟩
theorem tz_mX11_tries : tm_OkM tm_G mX11_tries := ⟨rfl, by decide +kernel, tm_in1 (i := 1717) (by decide +kernel), tm_in1 (i := 11) (by decide +kernel), by decide +kernel, by decide +kernel, fun h => absurd h (by decide), fun _ => ⟨tm_in1 (i := 1716) (by decide +kernel), tm_in0 (i := 93) (by decide +kernel), TX11, 35, rfl⟩, fun h => absurd h (by decide), by decide⟩
theorem tz_mX11_scatter : tm_OkM tm_G mX11_scatter := ⟨rfl, by decide +kernel, tm_in1 (i := 1721) (by decide +kernel), tm_in1 (i := 11) (by decide +kernel), by decide +kernel, by decide +kernel, fun h => absurd h (by decide), fun _ => ⟨tm_in1 (i := 1719) (by decide +kernel), tm_in1 (i := 1720) (by decide +kernel), TX11, 35, rfl⟩, fun h => absurd h (by decide), by decide⟩
theorem tz_mX11_refusesScatter : tm_OkM tm_G mX11_refusesScatter := ⟨rfl, by decide +kernel, tm_in1 (i := 1725) (by decide +kernel), tm_in1 (i := 11) (by decide +kernel), by decide +kernel, by decide +kernel, fun h => absurd h (by decide), fun _ => ⟨tm_in1 (i := 1724) (by decide +kernel), tm_in0 (i := 94) (by decide +kernel), TX11, 35, rfl⟩, fun h => absurd h (by decide), by decide⟩
theorem tz_mX11_scattered : tm_OkM tm_G mX11_scattered := ⟨rfl, by decide +kernel, tm_in1 (i := 1729) (by decide +kernel), tm_in1 (i := 11) (by decide +kernel), by decide +kernel, by decide +kernel, fun h => absurd h (by decide), fun _ => ⟨tm_in1 (i := 1728) (by decide +kernel), tm_in0 (i := 95) (by decide +kernel), TX11, 35, rfl⟩, fun h => absurd h (by decide), by decide⟩
theorem tz_mX11_claysBy : tm_OkM tm_G mX11_claysBy := ⟨rfl, by decide +kernel, tm_in1 (i := 1733) (by decide +kernel), tm_in1 (i := 11) (by decide +kernel), by decide +kernel, by decide +kernel, fun h => absurd h (by decide), fun _ => ⟨tm_in1 (i := 1732) (by decide +kernel), tm_in0 (i := 96) (by decide +kernel), TX11, 35, rfl⟩, fun h => absurd h (by decide), by decide⟩
theorem tz_mX11_bounded : tm_OkM tm_G mX11_bounded := ⟨rfl, by decide +kernel, tm_in1 (i := 1736) (by decide +kernel), tm_in1 (i := 11) (by decide +kernel), by decide +kernel, by decide +kernel, fun _ => tm_in1 (i := 1735) (by decide +kernel), fun h => absurd h (by decide), fun h => absurd h (by decide), by decide⟩
theorem tz_mX11_lowers : tm_OkM tm_G mX11_lowers := ⟨rfl, by decide +kernel, tm_in1 (i := 1740) (by decide +kernel), tm_in1 (i := 11) (by decide +kernel), by decide +kernel, by decide +kernel, fun h => absurd h (by decide), fun _ => ⟨tm_in1 (i := 1738) (by decide +kernel), tm_in1 (i := 1739) (by decide +kernel), TX11, 35, rfl⟩, fun h => absurd h (by decide), by decide⟩
theorem tz_mX11_why : tm_OkM tm_G mX11_why := ⟨rfl, by decide +kernel, tm_in1 (i := 1744) (by decide +kernel), tm_in1 (i := 11) (by decide +kernel), by decide +kernel, by decide +kernel, fun h => absurd h (by decide), fun _ => ⟨tm_in1 (i := 1742) (by decide +kernel), tm_in1 (i := 1743) (by decide +kernel), TX11, 35, rfl⟩, fun h => absurd h (by decide), by decide⟩
theorem tz_mX11_lay : tm_OkM tm_G mX11_lay := ⟨rfl, by decide +kernel, tm_in1 (i := 1748) (by decide +kernel), tm_in1 (i := 11) (by decide +kernel), by decide +kernel, by decide +kernel, fun h => absurd h (by decide), fun _ => ⟨tm_in1 (i := 1746) (by decide +kernel), tm_in1 (i := 1747) (by decide +kernel), TX11, 35, rfl⟩, fun h => absurd h (by decide), by decide⟩
theorem tz_mX11_fold : tm_OkM tm_G mX11_fold := ⟨rfl, by decide +kernel, tm_in1 (i := 1752) (by decide +kernel), tm_in1 (i := 11) (by decide +kernel), by decide +kernel, by decide +kernel, fun h => absurd h (by decide), fun _ => ⟨tm_in1 (i := 1750) (by decide +kernel), tm_in1 (i := 1751) (by decide +kernel), TX11, 35, rfl⟩, fun h => absurd h (by decide), by decide⟩
theorem tz_mX11_folds : tm_OkM tm_G mX11_folds := ⟨rfl, by decide +kernel, tm_in1 (i := 1755) (by decide +kernel), tm_in1 (i := 11) (by decide +kernel), by decide +kernel, by decide +kernel, fun _ => tm_in1 (i := 1754) (by decide +kernel), fun h => absurd h (by decide), fun h => absurd h (by decide), by decide⟩
theorem tz_mX11_layer : tm_OkM tm_G mX11_layer := ⟨rfl, by decide +kernel, tm_in1 (i := 1759) (by decide +kernel), tm_in1 (i := 11) (by decide +kernel), by decide +kernel, by decide +kernel, fun h => absurd h (by decide), fun _ => ⟨tm_in1 (i := 1757) (by decide +kernel), tm_in1 (i := 1758) (by decide +kernel), TX11, 35, rfl⟩, fun h => absurd h (by decide), by decide⟩
theorem tz_mX11_even : tm_OkM tm_G mX11_even := ⟨rfl, by decide +kernel, tm_in1 (i := 1763) (by decide +kernel), tm_in1 (i := 11) (by decide +kernel), by decide +kernel, by decide +kernel, fun h => absurd h (by decide), fun _ => ⟨tm_in1 (i := 1761) (by decide +kernel), tm_in1 (i := 1762) (by decide +kernel), TX11, 35, rfl⟩, fun h => absurd h (by decide), by decide⟩
theorem tz_mX11_isEven : tm_OkM tm_G mX11_isEven := ⟨rfl, by decide +kernel, tm_in1 (i := 1766) (by decide +kernel), tm_in1 (i := 11) (by decide +kernel), by decide +kernel, by decide +kernel, fun _ => tm_in1 (i := 1765) (by decide +kernel), fun h => absurd h (by decide), fun h => absurd h (by decide), by decide⟩
theorem tz_mX11_colour : tm_OkM tm_G mX11_colour := ⟨rfl, by decide +kernel, tm_in1 (i := 1770) (by decide +kernel), tm_in1 (i := 11) (by decide +kernel), by decide +kernel, by decide +kernel, fun h => absurd h (by decide), fun _ => ⟨tm_in1 (i := 1768) (by decide +kernel), tm_in1 (i := 1769) (by decide +kernel), TX11, 35, rfl⟩, fun h => absurd h (by decide), by decide⟩
theorem tz_mX11_colourOf : tm_OkM tm_G mX11_colourOf := ⟨rfl, by decide +kernel, tm_in1 (i := 1774) (by decide +kernel), tm_in1 (i := 11) (by decide +kernel), by decide +kernel, by decide +kernel, fun h => absurd h (by decide), fun _ => ⟨tm_in1 (i := 1773) (by decide +kernel), tm_in0 (i := 97) (by decide +kernel), TX11, 35, rfl⟩, fun h => absurd h (by decide), by decide⟩
theorem tz_mX11_eye : tm_OkM tm_G mX11_eye := ⟨rfl, by decide +kernel, tm_in1 (i := 1778) (by decide +kernel), tm_in1 (i := 11) (by decide +kernel), by decide +kernel, by decide +kernel, fun h => absurd h (by decide), fun _ => ⟨tm_in1 (i := 1776) (by decide +kernel), tm_in1 (i := 1777) (by decide +kernel), TX11, 35, rfl⟩, fun h => absurd h (by decide), by decide⟩
theorem tz_mX11_polish : tm_OkM tm_G mX11_polish := ⟨rfl, by decide +kernel, tm_in1 (i := 1782) (by decide +kernel), tm_in1 (i := 11) (by decide +kernel), by decide +kernel, by decide +kernel, fun h => absurd h (by decide), fun _ => ⟨tm_in1 (i := 1780) (by decide +kernel), tm_in1 (i := 1781) (by decide +kernel), TX11, 35, rfl⟩, fun h => absurd h (by decide), by decide⟩
theorem tz_mX11_stonesFor : tm_OkM tm_G mX11_stonesFor := ⟨rfl, by decide +kernel, tm_in1 (i := 1786) (by decide +kernel), tm_in1 (i := 11) (by decide +kernel), by decide +kernel, by decide +kernel, fun h => absurd h (by decide), fun _ => ⟨tm_in1 (i := 1785) (by decide +kernel), tm_in0 (i := 98) (by decide +kernel), TX11, 35, rfl⟩, fun h => absurd h (by decide), by decide⟩
theorem tz_mX11_daysOf : tm_OkM tm_G mX11_daysOf := ⟨rfl, by decide +kernel, tm_in1 (i := 1790) (by decide +kernel), tm_in1 (i := 11) (by decide +kernel), by decide +kernel, by decide +kernel, fun h => absurd h (by decide), fun _ => ⟨tm_in1 (i := 1789) (by decide +kernel), tm_in0 (i := 99) (by decide +kernel), TX11, 35, rfl⟩, fun h => absurd h (by decide), by decide⟩
theorem tz_mX11_stones : tm_OkM tm_G mX11_stones := ⟨rfl, by decide +kernel, tm_in1 (i := 1794) (by decide +kernel), tm_in1 (i := 11) (by decide +kernel), by decide +kernel, by decide +kernel, fun h => absurd h (by decide), fun _ => ⟨tm_in1 (i := 1792) (by decide +kernel), tm_in1 (i := 1793) (by decide +kernel), TX11, 35, rfl⟩, fun h => absurd h (by decide), by decide⟩
theorem tz_mX11_whose : tm_OkM tm_G mX11_whose := ⟨rfl, by decide +kernel, tm_in1 (i := 1798) (by decide +kernel), tm_in1 (i := 11) (by decide +kernel), by decide +kernel, by decide +kernel, fun h => absurd h (by decide), fun _ => ⟨tm_in1 (i := 1796) (by decide +kernel), tm_in1 (i := 1797) (by decide +kernel), TX11, 35, rfl⟩, fun h => absurd h (by decide), by decide⟩
theorem tz_mX11_productOf : tm_OkM tm_G mX11_productOf := ⟨rfl, by decide +kernel, tm_in1 (i := 1802) (by decide +kernel), tm_in1 (i := 11) (by decide +kernel), by decide +kernel, by decide +kernel, fun h => absurd h (by decide), fun _ => ⟨tm_in1 (i := 1801) (by decide +kernel), tm_in0 (i := 100) (by decide +kernel), TX11, 35, rfl⟩, fun h => absurd h (by decide), by decide⟩
theorem tz_mX11_odds : tm_OkM tm_G mX11_odds := ⟨rfl, by decide +kernel, tm_in1 (i := 1806) (by decide +kernel), tm_in1 (i := 11) (by decide +kernel), by decide +kernel, by decide +kernel, fun h => absurd h (by decide), fun _ => ⟨tm_in1 (i := 1804) (by decide +kernel), tm_in1 (i := 1805) (by decide +kernel), TX11, 35, rfl⟩, fun h => absurd h (by decide), by decide⟩
theorem tz_mX11_learn : tm_OkM tm_G mX11_learn := ⟨rfl, by decide +kernel, tm_in1 (i := 1810) (by decide +kernel), tm_in1 (i := 11) (by decide +kernel), by decide +kernel, by decide +kernel, fun h => absurd h (by decide), fun _ => ⟨tm_in1 (i := 1808) (by decide +kernel), tm_in1 (i := 1809) (by decide +kernel), TX11, 35, rfl⟩, fun h => absurd h (by decide), by decide⟩
theorem tz_mX11_next : tm_OkM tm_G mX11_next := ⟨rfl, by decide +kernel, tm_in1 (i := 1814) (by decide +kernel), tm_in1 (i := 11) (by decide +kernel), by decide +kernel, by decide +kernel, fun h => absurd h (by decide), fun _ => ⟨tm_in1 (i := 1812) (by decide +kernel), tm_in1 (i := 1813) (by decide +kernel), TX11, 35, rfl⟩, fun h => absurd h (by decide), by decide⟩
theorem tz_mX11_differs : tm_OkM tm_G mX11_differs := ⟨rfl, by decide +kernel, tm_in1 (i := 1818) (by decide +kernel), tm_in1 (i := 11) (by decide +kernel), by decide +kernel, by decide +kernel, fun h => absurd h (by decide), fun _ => ⟨tm_in1 (i := 1817) (by decide +kernel), tm_in0 (i := 101) (by decide +kernel), TX11, 35, rfl⟩, fun h => absurd h (by decide), by decide⟩
theorem tz_mX11_led : tm_OkM tm_G mX11_led := ⟨rfl, by decide +kernel, tm_in1 (i := 1822) (by decide +kernel), tm_in1 (i := 11) (by decide +kernel), by decide +kernel, by decide +kernel, fun h => absurd h (by decide), fun _ => ⟨tm_in1 (i := 1820) (by decide +kernel), tm_in1 (i := 1821) (by decide +kernel), TX11, 35, rfl⟩, fun h => absurd h (by decide), by decide⟩
theorem tz_mX11_size : tm_OkM tm_G mX11_size := ⟨rfl, by decide +kernel, tm_in1 (i := 1826) (by decide +kernel), tm_in1 (i := 11) (by decide +kernel), by decide +kernel, by decide +kernel, fun h => absurd h (by decide), fun _ => ⟨tm_in1 (i := 1824) (by decide +kernel), tm_in1 (i := 1825) (by decide +kernel), TX11, 35, rfl⟩, fun h => absurd h (by decide), by decide⟩
theorem tz_mX11_trouble : tm_OkM tm_G mX11_trouble := ⟨rfl, by decide +kernel, tm_in1 (i := 1830) (by decide +kernel), tm_in1 (i := 11) (by decide +kernel), by decide +kernel, by decide +kernel, fun h => absurd h (by decide), fun _ => ⟨tm_in1 (i := 1828) (by decide +kernel), tm_in1 (i := 1829) (by decide +kernel), TX11, 35, rfl⟩, fun h => absurd h (by decide), by decide⟩
def tm_okb (oc : Nat) (q : Nat × Nat) : Prop := (q.2 = 0 → Jvm.Cond.methodLink (tm_names oc) q.1 tm_yLen ∈ lw_tbl) ∧ (q.2 = 1 → Jvm.Cond.methodLink (tm_names oc) q.1 tm_yChr ∈ lw_tbl) ∧ (q.2 = 2 → Jvm.Cond.methodLink (tm_names oc) q.1 arraycopyName ∈ lw_tbl) ∧ (q.2 = 3 → Jvm.Cond.methodLink (tm_names oc) q.1 objectInit ∈ lw_tbl) ∧ (q.2 = 4 → Jvm.Cond.methodLink (tm_names oc) q.1 Lib.Math.max.name ∈ lw_tbl) ∧ (q.2 = 5 → Jvm.Cond.methodLink (tm_names oc) q.1 Lib.Math.min.name ∈ lw_tbl) ∧ (q.2 = 6 → Jvm.Cond.methodLink (tm_names oc) q.1 Lib.Math.abs.name ∈ lw_tbl)
def tm_okq (oc : Nat) (q : Nat × tm_M) : Prop := tm_OkM tm_G q.2 ∧ tm_Lk (tm_names oc) q.1 (tm_y q.2)
theorem tz_q_0_9 : tm_okq 0 (9, mX4_init) := ⟨tz_mX4_init, Or.inl (tm_in1 (i := 199) (by decide +kernel))⟩
theorem tz_q_0_24 : tm_okq 0 (24, mX5_at) := ⟨tz_mX5_at, Or.inl (tm_in1 (i := 588) (by decide +kernel))⟩
theorem tz_q_0_30 : tm_okq 0 (30, mX4_fit) := ⟨tz_mX4_fit, Or.inl (tm_in1 (i := 589) (by decide +kernel))⟩
theorem tz_q_0_34 : tm_okq 0 (34, mX0_heatTo) := ⟨tz_mX0_heatTo, Or.inl (tm_in1 (i := 610) (by decide +kernel))⟩
theorem tz_q_0_42 : tm_okq 0 (42, mX4_heatTo) := ⟨tz_mX4_heatTo, Or.inl (tm_in1 (i := 614) (by decide +kernel))⟩
theorem tz_q_0_49 : tm_okq 0 (49, mX4_isCracked) := ⟨tz_mX4_isCracked, Or.inl (tm_in1 (i := 696) (by decide +kernel))⟩
theorem tz_q_0_53 : tm_okq 0 (53, mX4_coolOnce) := ⟨tz_mX4_coolOnce, Or.inl (tm_in1 (i := 697) (by decide +kernel))⟩
theorem tz_q_0_56 : tm_okq 0 (56, mX4_bendNow) := ⟨tz_mX4_bendNow, Or.inl (tm_in1 (i := 736) (by decide +kernel))⟩
theorem tz_q_0_68 : tm_okq 0 (68, mX4_tenth) := ⟨tz_mX4_tenth, Or.inl (tm_in1 (i := 750) (by decide +kernel))⟩
theorem tz_q_0_71 : tm_okq 0 (71, mX0_coolFor) := ⟨tz_mX0_coolFor, Or.inl (tm_in1 (i := 751) (by decide +kernel))⟩
set_option maxRecDepth 20000 in
theorem tz_q_0 : ∀ q ∈ tq_0, tm_okq 0 q := List.forall_mem_cons.mpr ⟨tz_q_0_9, List.forall_mem_cons.mpr ⟨tz_q_0_24, List.forall_mem_cons.mpr ⟨tz_q_0_30, List.forall_mem_cons.mpr ⟨tz_q_0_34, List.forall_mem_cons.mpr ⟨tz_q_0_42, List.forall_mem_cons.mpr ⟨tz_q_0_49, List.forall_mem_cons.mpr ⟨tz_q_0_53, List.forall_mem_cons.mpr ⟨tz_q_0_56, List.forall_mem_cons.mpr ⟨tz_q_0_68, List.forall_mem_cons.mpr ⟨tz_q_0_71, fun _ h => absurd h List.not_mem_nil⟩⟩⟩⟩⟩⟩⟩⟩⟩⟩
theorem tz_c_0_7 : ∃ C T N, vwCl[4]? = some (C, T, N) ∧ Jvm.Cond.classLink (tm_names 0) 7 C ∈ lw_tbl := ⟨RX4, TX4, 18, rfl, tm_in1 (i := 197) (by decide +kernel)⟩
set_option maxRecDepth 20000 in
theorem tz_c_0 : ∀ q ∈ tc_0, (fun q : Nat × Nat => ∃ C T N, vwCl[q.2]? = some (C, T, N) ∧ Jvm.Cond.classLink (tm_names 0) q.1 C ∈ lw_tbl) q := List.forall_mem_cons.mpr ⟨tz_c_0_7, fun _ h => absurd h List.not_mem_nil⟩
theorem tz_b_0_1 : tm_okb 0 (1, 3) := ⟨fun h => absurd h (by decide), fun h => absurd h (by decide), fun h => absurd h (by decide), fun _ => tm_in1 (i := 196) (by decide +kernel), fun h => absurd h (by decide), fun h => absurd h (by decide), fun h => absurd h (by decide)⟩
theorem tz_b_0_60 : tm_okb 0 (60, 5) := ⟨fun h => absurd h (by decide), fun h => absurd h (by decide), fun h => absurd h (by decide), fun h => absurd h (by decide), fun h => absurd h (by decide), fun _ => tm_in1 (i := 740) (by decide +kernel), fun h => absurd h (by decide)⟩
theorem tz_b_0_65 : tm_okb 0 (65, 4) := ⟨fun h => absurd h (by decide), fun h => absurd h (by decide), fun h => absurd h (by decide), fun h => absurd h (by decide), fun _ => tm_in1 (i := 741) (by decide +kernel), fun h => absurd h (by decide), fun h => absurd h (by decide)⟩
set_option maxRecDepth 20000 in
theorem tz_b_0 : ∀ q ∈ tb_0, tm_okb 0 q := List.forall_mem_cons.mpr ⟨tz_b_0_1, List.forall_mem_cons.mpr ⟨tz_b_0_60, List.forall_mem_cons.mpr ⟨tz_b_0_65, fun _ h => absurd h List.not_mem_nil⟩⟩⟩
set_option maxRecDepth 20000 in
theorem tz_k_0 : ∀ q ∈ tk_0, (fun q : Nat × Int32 => Jvm.Cond.constant (tm_names 0) q.1 q.2 ∈ lw_tbl) q := fun _ h => absurd h List.not_mem_nil
set_option maxRecDepth 20000 in
theorem tz_l_0 : ∀ q ∈ tl_0, (fun q : Nat × Int64 => Jvm.Cond.constantLong (tm_names 0) q.1 q.2 ∈ lw_tbl) q := fun _ h => absurd h List.not_mem_nil
theorem tz_q_1_18 : tm_okq 1 (18, mJ7_fill_53178) := ⟨tz_mJ7_fill_53178, Or.inl (tm_in1 (i := 624) (by decide +kernel))⟩
theorem tz_q_1_28 : tm_okq 1 (28, mX1_has) := ⟨tz_mX1_has, Or.inl (tm_in1 (i := 972) (by decide +kernel))⟩
theorem tz_q_1_32 : tm_okq 1 (32, mX1_foldOver) := ⟨tz_mX1_foldOver, Or.inl (tm_in1 (i := 981) (by decide +kernel))⟩
theorem tz_q_1_42 : tm_okq 1 (42, mX1_spread) := ⟨tz_mX1_spread, Or.inl (tm_in1 (i := 1003) (by decide +kernel))⟩
set_option maxRecDepth 20000 in
theorem tz_q_1 : ∀ q ∈ tq_1, tm_okq 1 q := List.forall_mem_cons.mpr ⟨tz_q_1_18, List.forall_mem_cons.mpr ⟨tz_q_1_28, List.forall_mem_cons.mpr ⟨tz_q_1_32, List.forall_mem_cons.mpr ⟨tz_q_1_42, fun _ h => absurd h List.not_mem_nil⟩⟩⟩⟩
set_option maxRecDepth 20000 in
theorem tz_c_1 : ∀ q ∈ tc_1, (fun q : Nat × Nat => ∃ C T N, vwCl[q.2]? = some (C, T, N) ∧ Jvm.Cond.classLink (tm_names 1) q.1 C ∈ lw_tbl) q := fun _ h => absurd h List.not_mem_nil
theorem tz_b_1_3 : tm_okb 1 (3, 3) := ⟨fun h => absurd h (by decide), fun h => absurd h (by decide), fun h => absurd h (by decide), fun _ => tm_in1 (i := 38) (by decide +kernel), fun h => absurd h (by decide), fun h => absurd h (by decide), fun h => absurd h (by decide)⟩
theorem tz_b_1_36 : tm_okb 1 (36, 2) := ⟨fun h => absurd h (by decide), fun h => absurd h (by decide), fun _ => tm_in1 (i := 1000) (by decide +kernel), fun h => absurd h (by decide), fun h => absurd h (by decide), fun h => absurd h (by decide), fun h => absurd h (by decide)⟩
theorem tz_b_1_46 : tm_okb 1 (46, 5) := ⟨fun h => absurd h (by decide), fun h => absurd h (by decide), fun h => absurd h (by decide), fun h => absurd h (by decide), fun h => absurd h (by decide), fun _ => tm_in1 (i := 1006) (by decide +kernel), fun h => absurd h (by decide)⟩
theorem tz_b_1_52 : tm_okb 1 (52, 4) := ⟨fun h => absurd h (by decide), fun h => absurd h (by decide), fun h => absurd h (by decide), fun h => absurd h (by decide), fun _ => tm_in1 (i := 1007) (by decide +kernel), fun h => absurd h (by decide), fun h => absurd h (by decide)⟩
set_option maxRecDepth 20000 in
theorem tz_b_1 : ∀ q ∈ tb_1, tm_okb 1 q := List.forall_mem_cons.mpr ⟨tz_b_1_3, List.forall_mem_cons.mpr ⟨tz_b_1_36, List.forall_mem_cons.mpr ⟨tz_b_1_46, List.forall_mem_cons.mpr ⟨tz_b_1_52, fun _ h => absurd h List.not_mem_nil⟩⟩⟩⟩
set_option maxRecDepth 20000 in
theorem tz_k_1 : ∀ q ∈ tk_1, (fun q : Nat × Int32 => Jvm.Cond.constant (tm_names 1) q.1 q.2 ∈ lw_tbl) q := fun _ h => absurd h List.not_mem_nil
set_option maxRecDepth 20000 in
theorem tz_l_1 : ∀ q ∈ tl_1, (fun q : Nat × Int64 => Jvm.Cond.constantLong (tm_names 1) q.1 q.2 ∈ lw_tbl) q := fun _ h => absurd h List.not_mem_nil
theorem tz_q_2_25 : tm_okq 2 (25, mX2_isFull) := ⟨tz_mX2_isFull, Or.inl (tm_in1 (i := 1094) (by decide +kernel))⟩
theorem tz_q_2_29 : tm_okq 2 (29, mX2_countGains) := ⟨tz_mX2_countGains, Or.inl (tm_in1 (i := 1103) (by decide +kernel))⟩
theorem tz_q_2_32 : tm_okq 2 (32, mJ7_fill_53178) := ⟨tz_mJ7_fill_53178, Or.inl (tm_in1 (i := 1107) (by decide +kernel))⟩
theorem tz_q_2_38 : tm_okq 2 (38, mX2_wayBetween) := ⟨tz_mX2_wayBetween, Or.inl (tm_in1 (i := 1108) (by decide +kernel))⟩
theorem tz_q_2_42 : tm_okq 2 (42, mJ6_compare_7cf53) := ⟨tz_mJ6_compare_7cf53, Or.inl (tm_in1 (i := 1112) (by decide +kernel))⟩
set_option maxRecDepth 20000 in
theorem tz_q_2 : ∀ q ∈ tq_2, tm_okq 2 q := List.forall_mem_cons.mpr ⟨tz_q_2_25, List.forall_mem_cons.mpr ⟨tz_q_2_29, List.forall_mem_cons.mpr ⟨tz_q_2_32, List.forall_mem_cons.mpr ⟨tz_q_2_38, List.forall_mem_cons.mpr ⟨tz_q_2_42, fun _ h => absurd h List.not_mem_nil⟩⟩⟩⟩⟩
set_option maxRecDepth 20000 in
theorem tz_c_2 : ∀ q ∈ tc_2, (fun q : Nat × Nat => ∃ C T N, vwCl[q.2]? = some (C, T, N) ∧ Jvm.Cond.classLink (tm_names 2) q.1 C ∈ lw_tbl) q := fun _ h => absurd h List.not_mem_nil
theorem tz_b_2_3 : tm_okb 2 (3, 3) := ⟨fun h => absurd h (by decide), fun h => absurd h (by decide), fun h => absurd h (by decide), fun _ => tm_in1 (i := 56) (by decide +kernel), fun h => absurd h (by decide), fun h => absurd h (by decide), fun h => absurd h (by decide)⟩
set_option maxRecDepth 20000 in
theorem tz_b_2 : ∀ q ∈ tb_2, tm_okb 2 q := List.forall_mem_cons.mpr ⟨tz_b_2_3, fun _ h => absurd h List.not_mem_nil⟩
set_option maxRecDepth 20000 in
theorem tz_k_2 : ∀ q ∈ tk_2, (fun q : Nat × Int32 => Jvm.Cond.constant (tm_names 2) q.1 q.2 ∈ lw_tbl) q := fun _ h => absurd h List.not_mem_nil
set_option maxRecDepth 20000 in
theorem tz_l_2 : ∀ q ∈ tl_2, (fun q : Nat × Int64 => Jvm.Cond.constantLong (tm_names 2) q.1 q.2 ∈ lw_tbl) q := fun _ h => absurd h List.not_mem_nil
theorem tz_q_3_11 : tm_okq 3 (11, mX5_init) := ⟨tz_mX5_init, Or.inl (tm_in1 (i := 78) (by decide +kernel))⟩
theorem tz_q_3_45 : tm_okq 3 (45, mX5_count) := ⟨tz_mX5_count, Or.inl (tm_in1 (i := 573) (by decide +kernel))⟩
theorem tz_q_3_49 : tm_okq 3 (49, mX5_at) := ⟨tz_mX5_at, Or.inl (tm_in1 (i := 574) (by decide +kernel))⟩
theorem tz_q_3_61 : tm_okq 3 (61, mX5_clear) := ⟨tz_mX5_clear, Or.inl (tm_in1 (i := 354) (by decide +kernel))⟩
theorem tz_q_3_64 : tm_okq 3 (64, mX3_daysOf) := ⟨tz_mX3_daysOf, Or.inl (tm_in1 (i := 1048) (by decide +kernel))⟩
theorem tz_q_3_68 : tm_okq 3 (68, mX3_signsOf) := ⟨tz_mX3_signsOf, Or.inl (tm_in1 (i := 1052) (by decide +kernel))⟩
theorem tz_q_3_71 : tm_okq 3 (71, mX3_productOf) := ⟨tz_mX3_productOf, Or.inl (tm_in1 (i := 1069) (by decide +kernel))⟩
set_option maxRecDepth 20000 in
theorem tz_q_3 : ∀ q ∈ tq_3, tm_okq 3 q := List.forall_mem_cons.mpr ⟨tz_q_3_11, List.forall_mem_cons.mpr ⟨tz_q_3_45, List.forall_mem_cons.mpr ⟨tz_q_3_49, List.forall_mem_cons.mpr ⟨tz_q_3_61, List.forall_mem_cons.mpr ⟨tz_q_3_64, List.forall_mem_cons.mpr ⟨tz_q_3_68, List.forall_mem_cons.mpr ⟨tz_q_3_71, fun _ h => absurd h List.not_mem_nil⟩⟩⟩⟩⟩⟩⟩
theorem tz_c_3_9 : ∃ C T N, vwCl[5]? = some (C, T, N) ∧ Jvm.Cond.classLink (tm_names 3) 9 C ∈ lw_tbl := ⟨RX5, TX5, 4, rfl, tm_in1 (i := 76) (by decide +kernel)⟩
set_option maxRecDepth 20000 in
theorem tz_c_3 : ∀ q ∈ tc_3, (fun q : Nat × Nat => ∃ C T N, vwCl[q.2]? = some (C, T, N) ∧ Jvm.Cond.classLink (tm_names 3) q.1 C ∈ lw_tbl) q := List.forall_mem_cons.mpr ⟨tz_c_3_9, fun _ h => absurd h List.not_mem_nil⟩
theorem tz_b_3_3 : tm_okb 3 (3, 3) := ⟨fun h => absurd h (by decide), fun h => absurd h (by decide), fun h => absurd h (by decide), fun _ => tm_in1 (i := 75) (by decide +kernel), fun h => absurd h (by decide), fun h => absurd h (by decide), fun h => absurd h (by decide)⟩
theorem tz_b_3_53 : tm_okb 3 (53, 5) := ⟨fun h => absurd h (by decide), fun h => absurd h (by decide), fun h => absurd h (by decide), fun h => absurd h (by decide), fun h => absurd h (by decide), fun _ => tm_in1 (i := 578) (by decide +kernel), fun h => absurd h (by decide)⟩
theorem tz_b_3_58 : tm_okb 3 (58, 4) := ⟨fun h => absurd h (by decide), fun h => absurd h (by decide), fun h => absurd h (by decide), fun h => absurd h (by decide), fun _ => tm_in1 (i := 581) (by decide +kernel), fun h => absurd h (by decide), fun h => absurd h (by decide)⟩
set_option maxRecDepth 20000 in
theorem tz_b_3 : ∀ q ∈ tb_3, tm_okb 3 q := List.forall_mem_cons.mpr ⟨tz_b_3_3, List.forall_mem_cons.mpr ⟨tz_b_3_53, List.forall_mem_cons.mpr ⟨tz_b_3_58, fun _ h => absurd h List.not_mem_nil⟩⟩⟩
set_option maxRecDepth 20000 in
theorem tz_k_3 : ∀ q ∈ tk_3, (fun q : Nat × Int32 => Jvm.Cond.constant (tm_names 3) q.1 q.2 ∈ lw_tbl) q := fun _ h => absurd h List.not_mem_nil
set_option maxRecDepth 20000 in
theorem tz_l_3 : ∀ q ∈ tl_3, (fun q : Nat × Int64 => Jvm.Cond.constantLong (tm_names 3) q.1 q.2 ∈ lw_tbl) q := fun _ h => absurd h List.not_mem_nil
theorem tz_q_4_50 : tm_okq 4 (50, mX9_kept) := ⟨tz_mX9_kept, Or.inr ⟨RX9, tm_in1 (i := 593) (by decide +kernel)⟩⟩
theorem tz_q_4_63 : tm_okq 4 (63, mX5_at) := ⟨tz_mX5_at, Or.inl (tm_in1 (i := 594) (by decide +kernel))⟩
theorem tz_q_4_81 : tm_okq 4 (81, mJ7_fill_53178) := ⟨tz_mJ7_fill_53178, Or.inl (tm_in1 (i := 595) (by decide +kernel))⟩
theorem tz_q_4_87 : tm_okq 4 (87, mX4_heatTo) := ⟨tz_mX4_heatTo, Or.inl (tm_in1 (i := 598) (by decide +kernel))⟩
theorem tz_q_4_94 : tm_okq 4 (94, mX4_wholePull) := ⟨tz_mX4_wholePull, Or.inl (tm_in1 (i := 602) (by decide +kernel))⟩
theorem tz_q_4_104 : tm_okq 4 (104, mX4_sizeCut) := ⟨tz_mX4_sizeCut, Or.inl (tm_in1 (i := 606) (by decide +kernel))⟩
theorem tz_q_4_107 : tm_okq 4 (107, mX4_has) := ⟨tz_mX4_has, Or.inl (tm_in1 (i := 682) (by decide +kernel))⟩
theorem tz_q_4_116 : tm_okq 4 (116, mX4_coolCut) := ⟨tz_mX4_coolCut, Or.inl (tm_in1 (i := 701) (by decide +kernel))⟩
theorem tz_q_4_120 : tm_okq 4 (120, mX3_kindOfFall) := ⟨tz_mX3_kindOfFall, Or.inl (tm_in1 (i := 709) (by decide +kernel))⟩
theorem tz_q_4_123 : tm_okq 4 (123, mX4_turnCell) := ⟨tz_mX4_turnCell, Or.inl (tm_in1 (i := 713) (by decide +kernel))⟩
theorem tz_q_4_127 : tm_okq 4 (127, mX4_strainCut) := ⟨tz_mX4_strainCut, Or.inl (tm_in1 (i := 717) (by decide +kernel))⟩
theorem tz_q_4_130 : tm_okq 4 (130, mX4_gained) := ⟨tz_mX4_gained, Or.inl (tm_in1 (i := 705) (by decide +kernel))⟩
theorem tz_q_4_133 : tm_okq 4 (133, mX4_totalOf) := ⟨tz_mX4_totalOf, Or.inl (tm_in1 (i := 721) (by decide +kernel))⟩
theorem tz_q_4_137 : tm_okq 4 (137, mX4_curveOf) := ⟨tz_mX4_curveOf, Or.inl (tm_in1 (i := 725) (by decide +kernel))⟩
theorem tz_q_4_140 : tm_okq 4 (140, mX4_pullBy) := ⟨tz_mX4_pullBy, Or.inl (tm_in1 (i := 729) (by decide +kernel))⟩
theorem tz_q_4_147 : tm_okq 4 (147, mX4_kindOf) := ⟨tz_mX4_kindOf, Or.inl (tm_in1 (i := 839) (by decide +kernel))⟩
theorem tz_q_4_150 : tm_okq 4 (150, mX4_isHard) := ⟨tz_mX4_isHard, Or.inl (tm_in1 (i := 835) (by decide +kernel))⟩
set_option maxRecDepth 20000 in
theorem tz_q_4 : ∀ q ∈ tq_4, tm_okq 4 q := List.forall_mem_cons.mpr ⟨tz_q_4_50, List.forall_mem_cons.mpr ⟨tz_q_4_63, List.forall_mem_cons.mpr ⟨tz_q_4_81, List.forall_mem_cons.mpr ⟨tz_q_4_87, List.forall_mem_cons.mpr ⟨tz_q_4_94, List.forall_mem_cons.mpr ⟨tz_q_4_104, List.forall_mem_cons.mpr ⟨tz_q_4_107, List.forall_mem_cons.mpr ⟨tz_q_4_116, List.forall_mem_cons.mpr ⟨tz_q_4_120, List.forall_mem_cons.mpr ⟨tz_q_4_123, List.forall_mem_cons.mpr ⟨tz_q_4_127, List.forall_mem_cons.mpr ⟨tz_q_4_130, List.forall_mem_cons.mpr ⟨tz_q_4_133, List.forall_mem_cons.mpr ⟨tz_q_4_137, List.forall_mem_cons.mpr ⟨tz_q_4_140, List.forall_mem_cons.mpr ⟨tz_q_4_147, List.forall_mem_cons.mpr ⟨tz_q_4_150, fun _ h => absurd h List.not_mem_nil⟩⟩⟩⟩⟩⟩⟩⟩⟩⟩⟩⟩⟩⟩⟩⟩⟩
set_option maxRecDepth 20000 in
theorem tz_c_4 : ∀ q ∈ tc_4, (fun q : Nat × Nat => ∃ C T N, vwCl[q.2]? = some (C, T, N) ∧ Jvm.Cond.classLink (tm_names 4) q.1 C ∈ lw_tbl) q := fun _ h => absurd h List.not_mem_nil
theorem tz_b_4_5 : tm_okb 4 (5, 3) := ⟨fun h => absurd h (by decide), fun h => absurd h (by decide), fun h => absurd h (by decide), fun _ => tm_in1 (i := 202) (by decide +kernel), fun h => absurd h (by decide), fun h => absurd h (by decide), fun h => absurd h (by decide)⟩
theorem tz_b_4_111 : tm_okb 4 (111, 4) := ⟨fun h => absurd h (by decide), fun h => absurd h (by decide), fun h => absurd h (by decide), fun h => absurd h (by decide), fun _ => tm_in1 (i := 683) (by decide +kernel), fun h => absurd h (by decide), fun h => absurd h (by decide)⟩
theorem tz_b_4_144 : tm_okb 4 (144, 6) := ⟨fun h => absurd h (by decide), fun h => absurd h (by decide), fun h => absurd h (by decide), fun h => absurd h (by decide), fun h => absurd h (by decide), fun h => absurd h (by decide), fun _ => tm_in1 (i := 733) (by decide +kernel)⟩
set_option maxRecDepth 20000 in
theorem tz_b_4 : ∀ q ∈ tb_4, tm_okb 4 q := List.forall_mem_cons.mpr ⟨tz_b_4_5, List.forall_mem_cons.mpr ⟨tz_b_4_111, List.forall_mem_cons.mpr ⟨tz_b_4_144, fun _ h => absurd h List.not_mem_nil⟩⟩⟩
set_option maxRecDepth 20000 in
theorem tz_k_4 : ∀ q ∈ tk_4, (fun q : Nat × Int32 => Jvm.Cond.constant (tm_names 4) q.1 q.2 ∈ lw_tbl) q := fun _ h => absurd h List.not_mem_nil
set_option maxRecDepth 20000 in
theorem tz_l_4 : ∀ q ∈ tl_4, (fun q : Nat × Int64 => Jvm.Cond.constantLong (tm_names 4) q.1 q.2 ∈ lw_tbl) q := fun _ h => absurd h List.not_mem_nil
set_option maxRecDepth 20000 in
theorem tz_q_5 : ∀ q ∈ tq_5, tm_okq 5 q := fun _ h => absurd h List.not_mem_nil
set_option maxRecDepth 20000 in
theorem tz_c_5 : ∀ q ∈ tc_5, (fun q : Nat × Nat => ∃ C T N, vwCl[q.2]? = some (C, T, N) ∧ Jvm.Cond.classLink (tm_names 5) q.1 C ∈ lw_tbl) q := fun _ h => absurd h List.not_mem_nil
theorem tz_b_5_1 : tm_okb 5 (1, 3) := ⟨fun h => absurd h (by decide), fun h => absurd h (by decide), fun h => absurd h (by decide), fun _ => tm_in1 (i := 81) (by decide +kernel), fun h => absurd h (by decide), fun h => absurd h (by decide), fun h => absurd h (by decide)⟩
set_option maxRecDepth 20000 in
theorem tz_b_5 : ∀ q ∈ tb_5, tm_okb 5 q := List.forall_mem_cons.mpr ⟨tz_b_5_1, fun _ h => absurd h List.not_mem_nil⟩
set_option maxRecDepth 20000 in
theorem tz_k_5 : ∀ q ∈ tk_5, (fun q : Nat × Int32 => Jvm.Cond.constant (tm_names 5) q.1 q.2 ∈ lw_tbl) q := fun _ h => absurd h List.not_mem_nil
set_option maxRecDepth 20000 in
theorem tz_l_5 : ∀ q ∈ tl_5, (fun q : Nat × Int64 => Jvm.Cond.constantLong (tm_names 5) q.1 q.2 ∈ lw_tbl) q := fun _ h => absurd h List.not_mem_nil
theorem tz_q_6_11 : tm_okq 6 (11, mX7_init) := ⟨tz_mX7_init, Or.inr ⟨RX9, tm_in1 (i := 148) (by decide +kernel)⟩⟩
theorem tz_q_6_30 : tm_okq 6 (30, mX3_clear) := ⟨tz_mX3_clear, Or.inl (tm_in1 (i := 350) (by decide +kernel))⟩
theorem tz_q_6_42 : tm_okq 6 (42, mX7_begin) := ⟨tz_mX7_begin, Or.inl (tm_in1 (i := 358) (by decide +kernel))⟩
theorem tz_q_6_46 : tm_okq 6 (46, mX6_readLine) := ⟨tz_mX6_readLine, Or.inl (tm_in1 (i := 373) (by decide +kernel))⟩
theorem tz_q_6_50 : tm_okq 6 (50, mX7_sort) := ⟨tz_mX7_sort, Or.inl (tm_in1 (i := 456) (by decide +kernel))⟩
theorem tz_q_6_54 : tm_okq 6 (54, mX6_parts) := ⟨tz_mX6_parts, Or.inl (tm_in1 (i := 561) (by decide +kernel))⟩
theorem tz_q_6_57 : tm_okq 6 (57, mX6_lacks) := ⟨tz_mX6_lacks, Or.inl (tm_in1 (i := 565) (by decide +kernel))⟩
theorem tz_q_6_60 : tm_okq 6 (60, mX6_fails) := ⟨tz_mX6_fails, Or.inl (tm_in1 (i := 438) (by decide +kernel))⟩
theorem tz_q_6_64 : tm_okq 6 (64, mX7_place) := ⟨tz_mX7_place, Or.inl (tm_in1 (i := 646) (by decide +kernel))⟩
theorem tz_q_6_67 : tm_okq 6 (67, mX7_step) := ⟨tz_mX7_step, Or.inl (tm_in1 (i := 451) (by decide +kernel))⟩
theorem tz_q_6_74 : tm_okq 6 (74, mX5_isFull) := ⟨tz_mX5_isFull, Or.inl (tm_in1 (i := 434) (by decide +kernel))⟩
theorem tz_q_6_85 : tm_okq 6 (85, mX5_count) := ⟨tz_mX5_count, Or.inl (tm_in1 (i := 500) (by decide +kernel))⟩
theorem tz_q_6_90 : tm_okq 6 (90, mX7_isWord) := ⟨tz_mX7_isWord, Or.inl (tm_in1 (i := 378) (by decide +kernel))⟩
theorem tz_q_6_94 : tm_okq 6 (94, mX6_hasRoom) := ⟨tz_mX6_hasRoom, Or.inl (tm_in1 (i := 430) (by decide +kernel))⟩
theorem tz_q_6_98 : tm_okq 6 (98, mX6_readBar) := ⟨tz_mX6_readBar, Or.inl (tm_in1 (i := 442) (by decide +kernel))⟩
theorem tz_q_6_104 : tm_okq 6 (104, mX6_readWater) := ⟨tz_mX6_readWater, Or.inl (tm_in1 (i := 483) (by decide +kernel))⟩
theorem tz_q_6_109 : tm_okq 6 (109, mX6_readKind) := ⟨tz_mX6_readKind, Or.inl (tm_in1 (i := 496) (by decide +kernel))⟩
theorem tz_q_6_117 : tm_okq 6 (117, mX6_readTurn) := ⟨tz_mX6_readTurn, Or.inl (tm_in1 (i := 528) (by decide +kernel))⟩
theorem tz_q_6_125 : tm_okq 6 (125, mX6_readRed) := ⟨tz_mX6_readRed, Or.inl (tm_in1 (i := 538) (by decide +kernel))⟩
theorem tz_q_6_133 : tm_okq 6 (133, mX6_readStone) := ⟨tz_mX6_readStone, Or.inl (tm_in1 (i := 543) (by decide +kernel))⟩
theorem tz_q_6_141 : tm_okq 6 (141, mX6_readSmith) := ⟨tz_mX6_readSmith, Or.inl (tm_in1 (i := 557) (by decide +kernel))⟩
theorem tz_q_6_146 : tm_okq 6 (146, mX6_tells) := ⟨tz_mX6_tells, Or.inl (tm_in1 (i := 447) (by decide +kernel))⟩
theorem tz_q_6_152 : tm_okq 6 (152, mX6_ends) := ⟨tz_mX6_ends, Or.inl (tm_in1 (i := 474) (by decide +kernel))⟩
theorem tz_q_6_155 : tm_okq 6 (155, mX6_tellsWhole) := ⟨tz_mX6_tellsWhole, Or.inl (tm_in1 (i := 487) (by decide +kernel))⟩
theorem tz_q_6_167 : tm_okq 6 (167, mX6_takesNewName) := ⟨tz_mX6_takesNewName, Or.inl (tm_in1 (i := 504) (by decide +kernel))⟩
theorem tz_q_6_176 : tm_okq 6 (176, mX6_takesKindTurnedTo) := ⟨tz_mX6_takesKindTurnedTo, Or.inl (tm_in1 (i := 532) (by decide +kernel))⟩
theorem tz_q_6_188 : tm_okq 6 (188, mX5_close) := ⟨tz_mX5_close, Or.inl (tm_in1 (i := 478) (by decide +kernel))⟩
theorem tz_q_6_195 : tm_okq 6 (195, mX6_takesWord) := ⟨tz_mX6_takesWord, Or.inl (tm_in1 (i := 549) (by decide +kernel))⟩
theorem tz_q_6_198 : tm_okq 6 (198, mX6_readSigns) := ⟨tz_mX6_readSigns, Or.inl (tm_in1 (i := 553) (by decide +kernel))⟩
theorem tz_q_6_201 : tm_okq 6 (201, mX6_isWhole) := ⟨tz_mX6_isWhole, Or.inl (tm_in1 (i := 452) (by decide +kernel))⟩
theorem tz_q_6_205 : tm_okq 6 (205, mX5_put) := ⟨tz_mX5_put, Or.inl (tm_in1 (i := 469) (by decide +kernel))⟩
theorem tz_q_6_209 : tm_okq 6 (209, mX6_keeps) := ⟨tz_mX6_keeps, Or.inl (tm_in1 (i := 465) (by decide +kernel))⟩
theorem tz_q_6_212 : tm_okq 6 (212, mX7_wholeNumber) := ⟨tz_mX7_wholeNumber, Or.inl (tm_in1 (i := 460) (by decide +kernel))⟩
theorem tz_q_6_215 : tm_okq 6 (215, mX9_within) := ⟨tz_mX9_within, Or.inr ⟨RX9, tm_in1 (i := 464) (by decide +kernel)⟩⟩
theorem tz_q_6_219 : tm_okq 6 (219, mX6_isName) := ⟨tz_mX6_isName, Or.inl (tm_in1 (i := 508) (by decide +kernel))⟩
theorem tz_q_6_222 : tm_okq 6 (222, mX6_nameAtHand) := ⟨tz_mX6_nameAtHand, Or.inl (tm_in1 (i := 516) (by decide +kernel))⟩
theorem tz_q_6_225 : tm_okq 6 (225, mX7_wordNumber) := ⟨tz_mX7_wordNumber, Or.inl (tm_in1 (i := 520) (by decide +kernel))⟩
set_option maxRecDepth 20000 in
theorem tz_q_6 : ∀ q ∈ tq_6, tm_okq 6 q := List.forall_mem_cons.mpr ⟨tz_q_6_11, List.forall_mem_cons.mpr ⟨tz_q_6_30, List.forall_mem_cons.mpr ⟨tz_q_6_42, List.forall_mem_cons.mpr ⟨tz_q_6_46, List.forall_mem_cons.mpr ⟨tz_q_6_50, List.forall_mem_cons.mpr ⟨tz_q_6_54, List.forall_mem_cons.mpr ⟨tz_q_6_57, List.forall_mem_cons.mpr ⟨tz_q_6_60, List.forall_mem_cons.mpr ⟨tz_q_6_64, List.forall_mem_cons.mpr ⟨tz_q_6_67, List.forall_mem_cons.mpr ⟨tz_q_6_74, List.forall_mem_cons.mpr ⟨tz_q_6_85, List.forall_mem_cons.mpr ⟨tz_q_6_90, List.forall_mem_cons.mpr ⟨tz_q_6_94, List.forall_mem_cons.mpr ⟨tz_q_6_98, List.forall_mem_cons.mpr ⟨tz_q_6_104, List.forall_mem_cons.mpr ⟨tz_q_6_109, List.forall_mem_cons.mpr ⟨tz_q_6_117, List.forall_mem_cons.mpr ⟨tz_q_6_125, List.forall_mem_cons.mpr ⟨tz_q_6_133, List.forall_mem_cons.mpr ⟨tz_q_6_141, List.forall_mem_cons.mpr ⟨tz_q_6_146, List.forall_mem_cons.mpr ⟨tz_q_6_152, List.forall_mem_cons.mpr ⟨tz_q_6_155, List.forall_mem_cons.mpr ⟨tz_q_6_167, List.forall_mem_cons.mpr ⟨tz_q_6_176, List.forall_mem_cons.mpr ⟨tz_q_6_188, List.forall_mem_cons.mpr ⟨tz_q_6_195, List.forall_mem_cons.mpr ⟨tz_q_6_198, List.forall_mem_cons.mpr ⟨tz_q_6_201, List.forall_mem_cons.mpr ⟨tz_q_6_205, List.forall_mem_cons.mpr ⟨tz_q_6_209, List.forall_mem_cons.mpr ⟨tz_q_6_212, List.forall_mem_cons.mpr ⟨tz_q_6_215, List.forall_mem_cons.mpr ⟨tz_q_6_219, List.forall_mem_cons.mpr ⟨tz_q_6_222, List.forall_mem_cons.mpr ⟨tz_q_6_225, fun _ h => absurd h List.not_mem_nil⟩⟩⟩⟩⟩⟩⟩⟩⟩⟩⟩⟩⟩⟩⟩⟩⟩⟩⟩⟩⟩⟩⟩⟩⟩⟩⟩⟩⟩⟩⟩⟩⟩⟩⟩⟩⟩
theorem tz_c_6_9 : ∃ C T N, vwCl[7]? = some (C, T, N) ∧ Jvm.Cond.classLink (tm_names 6) 9 C ∈ lw_tbl := ⟨RX7, TX7, 5, rfl, tm_in1 (i := 146) (by decide +kernel)⟩
set_option maxRecDepth 20000 in
theorem tz_c_6 : ∀ q ∈ tc_6, (fun q : Nat × Nat => ∃ C T N, vwCl[q.2]? = some (C, T, N) ∧ Jvm.Cond.classLink (tm_names 6) q.1 C ∈ lw_tbl) q := List.forall_mem_cons.mpr ⟨tz_c_6_9, fun _ h => absurd h List.not_mem_nil⟩
theorem tz_b_6_3 : tm_okb 6 (3, 3) := ⟨fun h => absurd h (by decide), fun h => absurd h (by decide), fun h => absurd h (by decide), fun _ => tm_in1 (i := 145) (by decide +kernel), fun h => absurd h (by decide), fun h => absurd h (by decide), fun h => absurd h (by decide)⟩
set_option maxRecDepth 20000 in
theorem tz_b_6 : ∀ q ∈ tb_6, tm_okb 6 q := List.forall_mem_cons.mpr ⟨tz_b_6_3, fun _ h => absurd h List.not_mem_nil⟩
set_option maxRecDepth 20000 in
theorem tz_k_6 : ∀ q ∈ tk_6, (fun q : Nat × Int32 => Jvm.Cond.constant (tm_names 6) q.1 q.2 ∈ lw_tbl) q := fun _ h => absurd h List.not_mem_nil
set_option maxRecDepth 20000 in
theorem tz_l_6 : ∀ q ∈ tl_6, (fun q : Nat × Int64 => Jvm.Cond.constantLong (tm_names 6) q.1 q.2 ∈ lw_tbl) q := fun _ h => absurd h List.not_mem_nil
theorem tz_q_7_13 : tm_okq 7 (13, mX9_kept) := ⟨tz_mX9_kept, Or.inr ⟨RX9, tm_in1 (i := 362) (by decide +kernel)⟩⟩
theorem tz_q_7_26 : tm_okq 7 (26, mX7_step) := ⟨tz_mX7_step, Or.inl (tm_in1 (i := 365) (by decide +kernel))⟩
theorem tz_q_7_35 : tm_okq 7 (35, mX7_takeRun) := ⟨tz_mX7_takeRun, Or.inl (tm_in1 (i := 369) (by decide +kernel))⟩
set_option maxRecDepth 20000 in
theorem tz_q_7 : ∀ q ∈ tq_7, tm_okq 7 q := List.forall_mem_cons.mpr ⟨tz_q_7_13, List.forall_mem_cons.mpr ⟨tz_q_7_26, List.forall_mem_cons.mpr ⟨tz_q_7_35, fun _ h => absurd h List.not_mem_nil⟩⟩⟩
set_option maxRecDepth 20000 in
theorem tz_c_7 : ∀ q ∈ tc_7, (fun q : Nat × Nat => ∃ C T N, vwCl[q.2]? = some (C, T, N) ∧ Jvm.Cond.classLink (tm_names 7) q.1 C ∈ lw_tbl) q := fun _ h => absurd h List.not_mem_nil
theorem tz_b_7_1 : tm_okb 7 (1, 3) := ⟨fun h => absurd h (by decide), fun h => absurd h (by decide), fun h => absurd h (by decide), fun _ => tm_in1 (i := 151) (by decide +kernel), fun h => absurd h (by decide), fun h => absurd h (by decide), fun h => absurd h (by decide)⟩
theorem tz_b_7_39 : tm_okb 7 (39, 0) := ⟨fun _ => tm_in1 (i := 382) (by decide +kernel), fun h => absurd h (by decide), fun h => absurd h (by decide), fun h => absurd h (by decide), fun h => absurd h (by decide), fun h => absurd h (by decide), fun h => absurd h (by decide)⟩
theorem tz_b_7_45 : tm_okb 7 (45, 1) := ⟨fun h => absurd h (by decide), fun _ => tm_in1 (i := 392) (by decide +kernel), fun h => absurd h (by decide), fun h => absurd h (by decide), fun h => absurd h (by decide), fun h => absurd h (by decide), fun h => absurd h (by decide)⟩
set_option maxRecDepth 20000 in
theorem tz_b_7 : ∀ q ∈ tb_7, tm_okb 7 q := List.forall_mem_cons.mpr ⟨tz_b_7_1, List.forall_mem_cons.mpr ⟨tz_b_7_39, List.forall_mem_cons.mpr ⟨tz_b_7_45, fun _ h => absurd h List.not_mem_nil⟩⟩⟩
set_option maxRecDepth 20000 in
theorem tz_k_7 : ∀ q ∈ tk_7, (fun q : Nat × Int32 => Jvm.Cond.constant (tm_names 7) q.1 q.2 ∈ lw_tbl) q := fun _ h => absurd h List.not_mem_nil
theorem tz_l_7_49 : Jvm.Cond.constantLong (tm_names 7) 49 (27 : Int64) ∈ lw_tbl := tm_in1 (i := 524) (by decide +kernel)
set_option maxRecDepth 20000 in
theorem tz_l_7 : ∀ q ∈ tl_7, (fun q : Nat × Int64 => Jvm.Cond.constantLong (tm_names 7) q.1 q.2 ∈ lw_tbl) q := List.forall_mem_cons.mpr ⟨tz_l_7_49, fun _ h => absurd h List.not_mem_nil⟩
theorem tz_q_8_17 : tm_okq 8 (17, mX4_init) := ⟨tz_mX4_init, Or.inl (tm_in1 (i := 279) (by decide +kernel))⟩
theorem tz_q_8_28 : tm_okq 8 (28, mX4_fit) := ⟨tz_mX4_fit, Or.inl (tm_in1 (i := 619) (by decide +kernel))⟩
theorem tz_q_8_32 : tm_okq 8 (32, mX4_pourWater) := ⟨tz_mX4_pourWater, Or.inl (tm_in1 (i := 891) (by decide +kernel))⟩
theorem tz_q_8_36 : tm_okq 8 (36, mX4_heatTo) := ⟨tz_mX4_heatTo, Or.inl (tm_in1 (i := 895) (by decide +kernel))⟩
theorem tz_q_8_39 : tm_okq 8 (39, mX4_isCracked) := ⟨tz_mX4_isCracked, Or.inl (tm_in1 (i := 896) (by decide +kernel))⟩
theorem tz_q_8_43 : tm_okq 8 (43, mX4_coolOnce) := ⟨tz_mX4_coolOnce, Or.inl (tm_in1 (i := 897) (by decide +kernel))⟩
theorem tz_q_8_52 : tm_okq 8 (52, mX5_at) := ⟨tz_mX5_at, Or.inl (tm_in1 (i := 881) (by decide +kernel))⟩
theorem tz_q_8_58 : tm_okq 8 (58, mX9_kept) := ⟨tz_mX9_kept, Or.inr ⟨RX9, tm_in1 (i := 930) (by decide +kernel)⟩⟩
theorem tz_q_8_62 : tm_okq 8 (62, mX4_setClay) := ⟨tz_mX4_setClay, Or.inl (tm_in1 (i := 882) (by decide +kernel))⟩
theorem tz_q_8_66 : tm_okq 8 (66, mX8_toldWater) := ⟨tz_mX8_toldWater, Or.inl (tm_in1 (i := 883) (by decide +kernel))⟩
theorem tz_q_8_70 : tm_okq 8 (70, mX8_clayWith) := ⟨tz_mX8_clayWith, Or.inl (tm_in1 (i := 926) (by decide +kernel))⟩
theorem tz_q_8_73 : tm_okq 8 (73, mX8_heatWith) := ⟨tz_mX8_heatWith, Or.inl (tm_in1 (i := 931) (by decide +kernel))⟩
theorem tz_q_8_76 : tm_okq 8 (76, mX8_waterWith) := ⟨tz_mX8_waterWith, Or.inl (tm_in1 (i := 934) (by decide +kernel))⟩
theorem tz_q_8_80 : tm_okq 8 (80, mX8_cracksAt) := ⟨tz_mX8_cracksAt, Or.inl (tm_in1 (i := 887) (by decide +kernel))⟩
theorem tz_q_8_84 : tm_okq 8 (84, mX8_cracksWith) := ⟨tz_mX8_cracksWith, Or.inl (tm_in1 (i := 959) (by decide +kernel))⟩
theorem tz_q_8_87 : tm_okq 8 (87, mX8_cracksOfNine) := ⟨tz_mX8_cracksOfNine, Or.inl (tm_in1 (i := 946) (by decide +kernel))⟩
theorem tz_q_8_91 : tm_okq 8 (91, mX4_width) := ⟨tz_mX4_width, Or.inl (tm_in1 (i := 864) (by decide +kernel))⟩
theorem tz_q_8_94 : tm_okq 8 (94, mX8_totalOfWay) := ⟨tz_mX8_totalOfWay, Or.inl (tm_in1 (i := 865) (by decide +kernel))⟩
theorem tz_q_8_97 : tm_okq 8 (97, mX8_isAimed) := ⟨tz_mX8_isAimed, Or.inl (tm_in1 (i := 873) (by decide +kernel))⟩
theorem tz_q_8_101 : tm_okq 8 (101, mX8_tensOfWay) := ⟨tz_mX8_tensOfWay, Or.inl (tm_in1 (i := 903) (by decide +kernel))⟩
theorem tz_q_8_104 : tm_okq 8 (104, mX8_usefulClay) := ⟨tz_mX8_usefulClay, Or.inl (tm_in1 (i := 877) (by decide +kernel))⟩
theorem tz_q_8_107 : tm_okq 8 (107, mX8_clayOfWay) := ⟨tz_mX8_clayOfWay, Or.inl (tm_in1 (i := 869) (by decide +kernel))⟩
theorem tz_q_8_110 : tm_okq 8 (110, mX4_cloudOf) := ⟨tz_mX4_cloudOf, Or.inl (tm_in1 (i := 898) (by decide +kernel))⟩
theorem tz_q_8_113 : tm_okq 8 (113, mX4_isHardBehind) := ⟨tz_mX4_isHardBehind, Or.inl (tm_in1 (i := 899) (by decide +kernel))⟩
theorem tz_q_8_117 : tm_okq 8 (117, mX3_redOf) := ⟨tz_mX3_redOf, Or.inl (tm_in1 (i := 1024) (by decide +kernel))⟩
set_option maxRecDepth 20000 in
theorem tz_q_8 : ∀ q ∈ tq_8, tm_okq 8 q := List.forall_mem_cons.mpr ⟨tz_q_8_17, List.forall_mem_cons.mpr ⟨tz_q_8_28, List.forall_mem_cons.mpr ⟨tz_q_8_32, List.forall_mem_cons.mpr ⟨tz_q_8_36, List.forall_mem_cons.mpr ⟨tz_q_8_39, List.forall_mem_cons.mpr ⟨tz_q_8_43, List.forall_mem_cons.mpr ⟨tz_q_8_52, List.forall_mem_cons.mpr ⟨tz_q_8_58, List.forall_mem_cons.mpr ⟨tz_q_8_62, List.forall_mem_cons.mpr ⟨tz_q_8_66, List.forall_mem_cons.mpr ⟨tz_q_8_70, List.forall_mem_cons.mpr ⟨tz_q_8_73, List.forall_mem_cons.mpr ⟨tz_q_8_76, List.forall_mem_cons.mpr ⟨tz_q_8_80, List.forall_mem_cons.mpr ⟨tz_q_8_84, List.forall_mem_cons.mpr ⟨tz_q_8_87, List.forall_mem_cons.mpr ⟨tz_q_8_91, List.forall_mem_cons.mpr ⟨tz_q_8_94, List.forall_mem_cons.mpr ⟨tz_q_8_97, List.forall_mem_cons.mpr ⟨tz_q_8_101, List.forall_mem_cons.mpr ⟨tz_q_8_104, List.forall_mem_cons.mpr ⟨tz_q_8_107, List.forall_mem_cons.mpr ⟨tz_q_8_110, List.forall_mem_cons.mpr ⟨tz_q_8_113, List.forall_mem_cons.mpr ⟨tz_q_8_117, fun _ h => absurd h List.not_mem_nil⟩⟩⟩⟩⟩⟩⟩⟩⟩⟩⟩⟩⟩⟩⟩⟩⟩⟩⟩⟩⟩⟩⟩⟩⟩
theorem tz_c_8_9 : ∃ C T N, vwCl[4]? = some (C, T, N) ∧ Jvm.Cond.classLink (tm_names 8) 9 C ∈ lw_tbl := ⟨RX4, TX4, 18, rfl, tm_in1 (i := 278) (by decide +kernel)⟩
set_option maxRecDepth 20000 in
theorem tz_c_8 : ∀ q ∈ tc_8, (fun q : Nat × Nat => ∃ C T N, vwCl[q.2]? = some (C, T, N) ∧ Jvm.Cond.classLink (tm_names 8) q.1 C ∈ lw_tbl) q := List.forall_mem_cons.mpr ⟨tz_c_8_9, fun _ h => absurd h List.not_mem_nil⟩
theorem tz_b_8_3 : tm_okb 8 (3, 3) := ⟨fun h => absurd h (by decide), fun h => absurd h (by decide), fun h => absurd h (by decide), fun _ => tm_in1 (i := 277) (by decide +kernel), fun h => absurd h (by decide), fun h => absurd h (by decide), fun h => absurd h (by decide)⟩
set_option maxRecDepth 20000 in
theorem tz_b_8 : ∀ q ∈ tb_8, tm_okb 8 q := List.forall_mem_cons.mpr ⟨tz_b_8_3, fun _ h => absurd h List.not_mem_nil⟩
set_option maxRecDepth 20000 in
theorem tz_k_8 : ∀ q ∈ tk_8, (fun q : Nat × Int32 => Jvm.Cond.constant (tm_names 8) q.1 q.2 ∈ lw_tbl) q := fun _ h => absurd h List.not_mem_nil
set_option maxRecDepth 20000 in
theorem tz_l_8 : ∀ q ∈ tl_8, (fun q : Nat × Int64 => Jvm.Cond.constantLong (tm_names 8) q.1 q.2 ∈ lw_tbl) q := fun _ h => absurd h List.not_mem_nil
theorem tz_q_9_15 : tm_okq 9 (15, mX1_init) := ⟨tz_mX1_init, Or.inr ⟨RX9, tm_in1 (i := 35) (by decide +kernel)⟩⟩
theorem tz_q_9_22 : tm_okq 9 (22, mX2_init) := ⟨tz_mX2_init, Or.inr ⟨RX9, tm_in1 (i := 53) (by decide +kernel)⟩⟩
theorem tz_q_9_29 : tm_okq 9 (29, mX3_init) := ⟨tz_mX3_init, Or.inr ⟨RX9, tm_in1 (i := 72) (by decide +kernel)⟩⟩
theorem tz_q_9_39 : tm_okq 9 (39, mX6_init) := ⟨tz_mX6_init, Or.inl (tm_in1 (i := 142) (by decide +kernel))⟩
theorem tz_q_9_48 : tm_okq 9 (48, mX0_init) := ⟨tz_mX0_init, Or.inl (tm_in1 (i := 193) (by decide +kernel))⟩
theorem tz_q_9_55 : tm_okq 9 (55, mX8_init) := ⟨tz_mX8_init, Or.inl (tm_in1 (i := 274) (by decide +kernel))⟩
theorem tz_q_9_64 : tm_okq 9 (64, mX9_putNumber) := ⟨tz_mX9_putNumber, Or.inl (tm_in1 (i := 331) (by decide +kernel))⟩
theorem tz_q_9_68 : tm_okq 9 (68, mX9_within) := ⟨tz_mX9_within, Or.inl (tm_in1 (i := 339) (by decide +kernel))⟩
theorem tz_q_9_72 : tm_okq 9 (72, mX9_refuse) := ⟨tz_mX9_refuse, Or.inl (tm_in1 (i := 342) (by decide +kernel))⟩
theorem tz_q_9_76 : tm_okq 9 (76, mX6_readInto) := ⟨tz_mX6_readInto, Or.inl (tm_in1 (i := 346) (by decide +kernel))⟩
theorem tz_q_9_87 : tm_okq 9 (87, mX3_markTurns) := ⟨tz_mX3_markTurns, Or.inl (tm_in1 (i := 569) (by decide +kernel))⟩
theorem tz_q_9_90 : tm_okq 9 (90, mX0_fit) := ⟨tz_mX0_fit, Or.inl (tm_in1 (i := 584) (by decide +kernel))⟩
theorem tz_q_9_93 : tm_okq 9 (93, mX8_fit) := ⟨tz_mX8_fit, Or.inl (tm_in1 (i := 615) (by decide +kernel))⟩
theorem tz_q_9_94 : tm_okq 9 (94, mX1_clear) := ⟨tz_mX1_clear, Or.inl (tm_in1 (i := 620) (by decide +kernel))⟩
theorem tz_q_9_97 : tm_okq 9 (97, mX2_clear) := ⟨tz_mX2_clear, Or.inl (tm_in1 (i := 625) (by decide +kernel))⟩
theorem tz_q_9_102 : tm_okq 9 (102, mX5_count) := ⟨tz_mX5_count, Or.inl (tm_in1 (i := 629) (by decide +kernel))⟩
theorem tz_q_9_108 : tm_okq 9 (108, mX9_answer) := ⟨tz_mX9_answer, Or.inl (tm_in1 (i := 630) (by decide +kernel))⟩
theorem tz_q_9_114 : tm_okq 9 (114, mX6_place) := ⟨tz_mX6_place, Or.inl (tm_in1 (i := 642) (by decide +kernel))⟩
theorem tz_q_9_117 : tm_okq 9 (117, mX9_refuses) := ⟨tz_mX9_refuses, Or.inl (tm_in1 (i := 654) (by decide +kernel))⟩
theorem tz_q_9_121 : tm_okq 9 (121, mX9_isHeat) := ⟨tz_mX9_isHeat, Or.inl (tm_in1 (i := 658) (by decide +kernel))⟩
theorem tz_q_9_124 : tm_okq 9 (124, mX0_heatTo) := ⟨tz_mX0_heatTo, Or.inl (tm_in1 (i := 661) (by decide +kernel))⟩
theorem tz_q_9_127 : tm_okq 9 (127, mX9_agrees) := ⟨tz_mX9_agrees, Or.inl (tm_in1 (i := 662) (by decide +kernel))⟩
theorem tz_q_9_135 : tm_okq 9 (135, mX4_has) := ⟨tz_mX4_has, Or.inl (tm_in1 (i := 670) (by decide +kernel))⟩
theorem tz_q_9_141 : tm_okq 9 (141, mX4_tenth) := ⟨tz_mX4_tenth, Or.inl (tm_in1 (i := 674) (by decide +kernel))⟩
theorem tz_q_9_144 : tm_okq 9 (144, mX4_setClay) := ⟨tz_mX4_setClay, Or.inl (tm_in1 (i := 678) (by decide +kernel))⟩
theorem tz_q_9_148 : tm_okq 9 (148, mX4_isCracked) := ⟨tz_mX4_isCracked, Or.inl (tm_in1 (i := 688) (by decide +kernel))⟩
theorem tz_q_9_151 : tm_okq 9 (151, mX0_coolFor) := ⟨tz_mX0_coolFor, Or.inl (tm_in1 (i := 692) (by decide +kernel))⟩
theorem tz_q_9_154 : tm_okq 9 (154, mX0_goBackTo) := ⟨tz_mX0_goBackTo, Or.inl (tm_in1 (i := 746) (by decide +kernel))⟩
theorem tz_q_9_157 : tm_okq 9 (157, mX4_heatOf) := ⟨tz_mX4_heatOf, Or.inl (tm_in1 (i := 756) (by decide +kernel))⟩
theorem tz_q_9_161 : tm_okq 9 (161, mX4_kindOf) := ⟨tz_mX4_kindOf, Or.inl (tm_in1 (i := 760) (by decide +kernel))⟩
theorem tz_q_9_164 : tm_okq 9 (164, mX4_clayOf) := ⟨tz_mX4_clayOf, Or.inl (tm_in1 (i := 764) (by decide +kernel))⟩
theorem tz_q_9_167 : tm_okq 9 (167, mX4_sizeOf) := ⟨tz_mX4_sizeOf, Or.inl (tm_in1 (i := 768) (by decide +kernel))⟩
theorem tz_q_9_170 : tm_okq 9 (170, mX4_turnOf) := ⟨tz_mX4_turnOf, Or.inl (tm_in1 (i := 772) (by decide +kernel))⟩
theorem tz_q_9_175 : tm_okq 9 (175, mX4_pullOf) := ⟨tz_mX4_pullOf, Or.inl (tm_in1 (i := 781) (by decide +kernel))⟩
theorem tz_q_9_179 : tm_okq 9 (179, mX4_curveOf) := ⟨tz_mX4_curveOf, Or.inl (tm_in1 (i := 790) (by decide +kernel))⟩
theorem tz_q_9_182 : tm_okq 9 (182, mX4_bendNow) := ⟨tz_mX4_bendNow, Or.inl (tm_in1 (i := 795) (by decide +kernel))⟩
theorem tz_q_9_185 : tm_okq 9 (185, mX0_leastBend) := ⟨tz_mX0_leastBend, Or.inl (tm_in1 (i := 796) (by decide +kernel))⟩
theorem tz_q_9_188 : tm_okq 9 (188, mX0_greatestBend) := ⟨tz_mX0_greatestBend, Or.inl (tm_in1 (i := 800) (by decide +kernel))⟩
theorem tz_q_9_191 : tm_okq 9 (191, mX4_crackAlong) := ⟨tz_mX4_crackAlong, Or.inl (tm_in1 (i := 808) (by decide +kernel))⟩
theorem tz_q_9_194 : tm_okq 9 (194, mX4_crackAcross) := ⟨tz_mX4_crackAcross, Or.inl (tm_in1 (i := 812) (by decide +kernel))⟩
theorem tz_q_9_197 : tm_okq 9 (197, mX4_isCold) := ⟨tz_mX4_isCold, Or.inl (tm_in1 (i := 820) (by decide +kernel))⟩
theorem tz_q_9_200 : tm_okq 9 (200, mX9_isHardness) := ⟨tz_mX9_isHardness, Or.inl (tm_in1 (i := 828) (by decide +kernel))⟩
theorem tz_q_9_203 : tm_okq 9 (203, mX4_cloudOf) := ⟨tz_mX4_cloudOf, Or.inl (tm_in1 (i := 831) (by decide +kernel))⟩
theorem tz_q_9_206 : tm_okq 9 (206, mX4_chipFrom) := ⟨tz_mX4_chipFrom, Or.inl (tm_in1 (i := 844) (by decide +kernel))⟩
theorem tz_q_9_209 : tm_okq 9 (209, mX9_isWidth) := ⟨tz_mX9_isWidth, Or.inl (tm_in1 (i := 852) (by decide +kernel))⟩
theorem tz_q_9_212 : tm_okq 9 (212, mX8_leastClay) := ⟨tz_mX8_leastClay, Or.inl (tm_in1 (i := 860) (by decide +kernel))⟩
theorem tz_q_9_216 : tm_okq 9 (216, mX9_isScatter) := ⟨tz_mX9_isScatter, Or.inl (tm_in1 (i := 911) (by decide +kernel))⟩
theorem tz_q_9_219 : tm_okq 9 (219, mX9_trialsOfBar) := ⟨tz_mX9_trialsOfBar, Or.inl (tm_in1 (i := 914) (by decide +kernel))⟩
theorem tz_q_9_223 : tm_okq 9 (223, mX8_cracksOfNine) := ⟨tz_mX8_cracksOfNine, Or.inl (tm_in1 (i := 922) (by decide +kernel))⟩
theorem tz_q_9_227 : tm_okq 9 (227, mX8_bestChange) := ⟨tz_mX8_bestChange, Or.inl (tm_in1 (i := 942) (by decide +kernel))⟩
theorem tz_q_9_230 : tm_okq 9 (230, mX8_cracksWith) := ⟨tz_mX8_cracksWith, Or.inl (tm_in1 (i := 951) (by decide +kernel))⟩
theorem tz_q_9_233 : tm_okq 9 (233, mX8_savingChanges) := ⟨tz_mX8_savingChanges, Or.inl (tm_in1 (i := 955) (by decide +kernel))⟩
theorem tz_q_9_236 : tm_okq 9 (236, mX1_has) := ⟨tz_mX1_has, Or.inl (tm_in1 (i := 964) (by decide +kernel))⟩
theorem tz_q_9_238 : tm_okq 9 (238, mX1_put) := ⟨tz_mX1_put, Or.inl (tm_in1 (i := 968) (by decide +kernel))⟩
theorem tz_q_9_242 : tm_okq 9 (242, mX1_foldTimes) := ⟨tz_mX1_foldTimes, Or.inl (tm_in1 (i := 977) (by decide +kernel))⟩
theorem tz_q_9_245 : tm_okq 9 (245, mX1_at) := ⟨tz_mX1_at, Or.inl (tm_in1 (i := 988) (by decide +kernel))⟩
theorem tz_q_9_248 : tm_okq 9 (248, mX1_foldsTillEven) := ⟨tz_mX1_foldsTillEven, Or.inl (tm_in1 (i := 996) (by decide +kernel))⟩
theorem tz_q_9_251 : tm_okq 9 (251, mX3_redOf) := ⟨tz_mX3_redOf, Or.inl (tm_in1 (i := 1012) (by decide +kernel))⟩
theorem tz_q_9_257 : tm_okq 9 (257, mX8_lookingSo) := ⟨tz_mX8_lookingSo, Or.inl (tm_in1 (i := 1020) (by decide +kernel))⟩
theorem tz_q_9_260 : tm_okq 9 (260, mX8_crackingByEye) := ⟨tz_mX8_crackingByEye, Or.inl (tm_in1 (i := 1025) (by decide +kernel))⟩
theorem tz_q_9_263 : tm_okq 9 (263, mX8_cloudedByEye) := ⟨tz_mX8_cloudedByEye, Or.inl (tm_in1 (i := 1029) (by decide +kernel))⟩
theorem tz_q_9_266 : tm_okq 9 (266, mX9_shown) := ⟨tz_mX9_shown, Or.inl (tm_in1 (i := 1037) (by decide +kernel))⟩
theorem tz_q_9_273 : tm_okq 9 (273, mX9_isSigns) := ⟨tz_mX9_isSigns, Or.inl (tm_in1 (i := 1041) (by decide +kernel))⟩
theorem tz_q_9_276 : tm_okq 9 (276, mX3_likeliestSmith) := ⟨tz_mX3_likeliestSmith, Or.inl (tm_in1 (i := 1065) (by decide +kernel))⟩
theorem tz_q_9_279 : tm_okq 9 (279, mX3_productOfAll) := ⟨tz_mX3_productOfAll, Or.inl (tm_in1 (i := 1077) (by decide +kernel))⟩
theorem tz_q_9_283 : tm_okq 9 (283, mX3_productOf) := ⟨tz_mX3_productOf, Or.inl (tm_in1 (i := 1081) (by decide +kernel))⟩
theorem tz_q_9_287 : tm_okq 9 (287, mX2_isFull) := ⟨tz_mX2_isFull, Or.inl (tm_in1 (i := 1086) (by decide +kernel))⟩
theorem tz_q_9_290 : tm_okq 9 (290, mX2_add) := ⟨tz_mX2_add, Or.inl (tm_in1 (i := 1090) (by decide +kernel))⟩
theorem tz_q_9_293 : tm_okq 9 (293, mX2_bestWay) := ⟨tz_mX2_bestWay, Or.inl (tm_in1 (i := 1099) (by decide +kernel))⟩
theorem tz_q_9_296 : tm_okq 9 (296, mX4_turned) := ⟨tz_mX4_turned, Or.inl (tm_in1 (i := 1123) (by decide +kernel))⟩
theorem tz_q_9_302 : tm_okq 9 (302, mX4_turnedCell) := ⟨tz_mX4_turnedCell, Or.inl (tm_in1 (i := 1209) (by decide +kernel))⟩
theorem tz_q_9_305 : tm_okq 9 (305, mX4_cuts) := ⟨tz_mX4_cuts, Or.inl (tm_in1 (i := 1119) (by decide +kernel))⟩
theorem tz_q_9_308 : tm_okq 9 (308, mX4_width) := ⟨tz_mX4_width, Or.inl (tm_in1 (i := 856) (by decide +kernel))⟩
theorem tz_q_9_311 : tm_okq 9 (311, mX2_count) := ⟨tz_mX2_count, Or.inl (tm_in1 (i := 1127) (by decide +kernel))⟩
theorem tz_q_9_312 : tm_okq 9 (312, mX4_wholePull) := ⟨tz_mX4_wholePull, Or.inl (tm_in1 (i := 1131) (by decide +kernel))⟩
theorem tz_q_9_315 : tm_okq 9 (315, mX9_linesTold) := ⟨tz_mX9_linesTold, Or.inl (tm_in1 (i := 1132) (by decide +kernel))⟩
theorem tz_q_9_318 : tm_okq 9 (318, mX8_setClay) := ⟨tz_mX8_setClay, Or.inl (tm_in1 (i := 918) (by decide +kernel))⟩
theorem tz_q_9_320 : tm_okq 9 (320, mX3_stonesThatShow) := ⟨tz_mX3_stonesThatShow, Or.inl (tm_in1 (i := 1044) (by decide +kernel))⟩
theorem tz_q_9_323 : tm_okq 9 (323, mX3_daysOf) := ⟨tz_mX3_daysOf, Or.inl (tm_in1 (i := 1056) (by decide +kernel))⟩
set_option maxRecDepth 20000 in
theorem tz_q_9 : ∀ q ∈ tq_9, tm_okq 9 q := List.forall_mem_cons.mpr ⟨tz_q_9_15, List.forall_mem_cons.mpr ⟨tz_q_9_22, List.forall_mem_cons.mpr ⟨tz_q_9_29, List.forall_mem_cons.mpr ⟨tz_q_9_39, List.forall_mem_cons.mpr ⟨tz_q_9_48, List.forall_mem_cons.mpr ⟨tz_q_9_55, List.forall_mem_cons.mpr ⟨tz_q_9_64, List.forall_mem_cons.mpr ⟨tz_q_9_68, List.forall_mem_cons.mpr ⟨tz_q_9_72, List.forall_mem_cons.mpr ⟨tz_q_9_76, List.forall_mem_cons.mpr ⟨tz_q_9_87, List.forall_mem_cons.mpr ⟨tz_q_9_90, List.forall_mem_cons.mpr ⟨tz_q_9_93, List.forall_mem_cons.mpr ⟨tz_q_9_94, List.forall_mem_cons.mpr ⟨tz_q_9_97, List.forall_mem_cons.mpr ⟨tz_q_9_102, List.forall_mem_cons.mpr ⟨tz_q_9_108, List.forall_mem_cons.mpr ⟨tz_q_9_114, List.forall_mem_cons.mpr ⟨tz_q_9_117, List.forall_mem_cons.mpr ⟨tz_q_9_121, List.forall_mem_cons.mpr ⟨tz_q_9_124, List.forall_mem_cons.mpr ⟨tz_q_9_127, List.forall_mem_cons.mpr ⟨tz_q_9_135, List.forall_mem_cons.mpr ⟨tz_q_9_141, List.forall_mem_cons.mpr ⟨tz_q_9_144, List.forall_mem_cons.mpr ⟨tz_q_9_148, List.forall_mem_cons.mpr ⟨tz_q_9_151, List.forall_mem_cons.mpr ⟨tz_q_9_154, List.forall_mem_cons.mpr ⟨tz_q_9_157, List.forall_mem_cons.mpr ⟨tz_q_9_161, List.forall_mem_cons.mpr ⟨tz_q_9_164, List.forall_mem_cons.mpr ⟨tz_q_9_167, List.forall_mem_cons.mpr ⟨tz_q_9_170, List.forall_mem_cons.mpr ⟨tz_q_9_175, List.forall_mem_cons.mpr ⟨tz_q_9_179, List.forall_mem_cons.mpr ⟨tz_q_9_182, List.forall_mem_cons.mpr ⟨tz_q_9_185, List.forall_mem_cons.mpr ⟨tz_q_9_188, List.forall_mem_cons.mpr ⟨tz_q_9_191, List.forall_mem_cons.mpr ⟨tz_q_9_194, List.forall_mem_cons.mpr ⟨tz_q_9_197, List.forall_mem_cons.mpr ⟨tz_q_9_200, List.forall_mem_cons.mpr ⟨tz_q_9_203, List.forall_mem_cons.mpr ⟨tz_q_9_206, List.forall_mem_cons.mpr ⟨tz_q_9_209, List.forall_mem_cons.mpr ⟨tz_q_9_212, List.forall_mem_cons.mpr ⟨tz_q_9_216, List.forall_mem_cons.mpr ⟨tz_q_9_219, List.forall_mem_cons.mpr ⟨tz_q_9_223, List.forall_mem_cons.mpr ⟨tz_q_9_227, List.forall_mem_cons.mpr ⟨tz_q_9_230, List.forall_mem_cons.mpr ⟨tz_q_9_233, List.forall_mem_cons.mpr ⟨tz_q_9_236, List.forall_mem_cons.mpr ⟨tz_q_9_238, List.forall_mem_cons.mpr ⟨tz_q_9_242, List.forall_mem_cons.mpr ⟨tz_q_9_245, List.forall_mem_cons.mpr ⟨tz_q_9_248, List.forall_mem_cons.mpr ⟨tz_q_9_251, List.forall_mem_cons.mpr ⟨tz_q_9_257, List.forall_mem_cons.mpr ⟨tz_q_9_260, List.forall_mem_cons.mpr ⟨tz_q_9_263, List.forall_mem_cons.mpr ⟨tz_q_9_266, List.forall_mem_cons.mpr ⟨tz_q_9_273, List.forall_mem_cons.mpr ⟨tz_q_9_276, List.forall_mem_cons.mpr ⟨tz_q_9_279, List.forall_mem_cons.mpr ⟨tz_q_9_283, List.forall_mem_cons.mpr ⟨tz_q_9_287, List.forall_mem_cons.mpr ⟨tz_q_9_290, List.forall_mem_cons.mpr ⟨tz_q_9_293, List.forall_mem_cons.mpr ⟨tz_q_9_296, List.forall_mem_cons.mpr ⟨tz_q_9_302, List.forall_mem_cons.mpr ⟨tz_q_9_305, List.forall_mem_cons.mpr ⟨tz_q_9_308, List.forall_mem_cons.mpr ⟨tz_q_9_311, List.forall_mem_cons.mpr ⟨tz_q_9_312, List.forall_mem_cons.mpr ⟨tz_q_9_315, List.forall_mem_cons.mpr ⟨tz_q_9_318, List.forall_mem_cons.mpr ⟨tz_q_9_320, List.forall_mem_cons.mpr ⟨tz_q_9_323, fun _ h => absurd h List.not_mem_nil⟩⟩⟩⟩⟩⟩⟩⟩⟩⟩⟩⟩⟩⟩⟩⟩⟩⟩⟩⟩⟩⟩⟩⟩⟩⟩⟩⟩⟩⟩⟩⟩⟩⟩⟩⟩⟩⟩⟩⟩⟩⟩⟩⟩⟩⟩⟩⟩⟩⟩⟩⟩⟩⟩⟩⟩⟩⟩⟩⟩⟩⟩⟩⟩⟩⟩⟩⟩⟩⟩⟩⟩⟩⟩⟩⟩⟩⟩⟩
theorem tz_c_9_13 : ∃ C T N, vwCl[1]? = some (C, T, N) ∧ Jvm.Cond.classLink (tm_names 9) 13 C ∈ lw_tbl := ⟨RX1, TX1, 3, rfl, tm_in1 (i := 33) (by decide +kernel)⟩
theorem tz_c_9_20 : ∃ C T N, vwCl[2]? = some (C, T, N) ∧ Jvm.Cond.classLink (tm_names 9) 20 C ∈ lw_tbl := ⟨RX2, TX2, 4, rfl, tm_in1 (i := 51) (by decide +kernel)⟩
theorem tz_c_9_27 : ∃ C T N, vwCl[3]? = some (C, T, N) ∧ Jvm.Cond.classLink (tm_names 9) 27 C ∈ lw_tbl := ⟨RX3, TX3, 9, rfl, tm_in1 (i := 70) (by decide +kernel)⟩
theorem tz_c_9_37 : ∃ C T N, vwCl[6]? = some (C, T, N) ∧ Jvm.Cond.classLink (tm_names 9) 37 C ∈ lw_tbl := ⟨RX6, TX6, 7, rfl, tm_in1 (i := 140) (by decide +kernel)⟩
theorem tz_c_9_46 : ∃ C T N, vwCl[0]? = some (C, T, N) ∧ Jvm.Cond.classLink (tm_names 9) 46 C ∈ lw_tbl := ⟨RX0, TX0, 4, rfl, tm_in1 (i := 191) (by decide +kernel)⟩
theorem tz_c_9_53 : ∃ C T N, vwCl[8]? = some (C, T, N) ∧ Jvm.Cond.classLink (tm_names 9) 53 C ∈ lw_tbl := ⟨RX8, TX8, 3, rfl, tm_in1 (i := 272) (by decide +kernel)⟩
set_option maxRecDepth 20000 in
theorem tz_c_9 : ∀ q ∈ tc_9, (fun q : Nat × Nat => ∃ C T N, vwCl[q.2]? = some (C, T, N) ∧ Jvm.Cond.classLink (tm_names 9) q.1 C ∈ lw_tbl) q := List.forall_mem_cons.mpr ⟨tz_c_9_13, List.forall_mem_cons.mpr ⟨tz_c_9_20, List.forall_mem_cons.mpr ⟨tz_c_9_27, List.forall_mem_cons.mpr ⟨tz_c_9_37, List.forall_mem_cons.mpr ⟨tz_c_9_46, List.forall_mem_cons.mpr ⟨tz_c_9_53, fun _ h => absurd h List.not_mem_nil⟩⟩⟩⟩⟩⟩
theorem tz_b_9_1 : tm_okb 9 (1, 3) := ⟨fun h => absurd h (by decide), fun h => absurd h (by decide), fun h => absurd h (by decide), fun _ => tm_in1 (i := 30) (by decide +kernel), fun h => absurd h (by decide), fun h => absurd h (by decide), fun h => absurd h (by decide)⟩
set_option maxRecDepth 20000 in
theorem tz_b_9 : ∀ q ∈ tb_9, tm_okb 9 q := List.forall_mem_cons.mpr ⟨tz_b_9_1, fun _ h => absurd h List.not_mem_nil⟩
theorem tz_k_9_178 : Jvm.Cond.constant (tm_names 9) 178 (-2147483648 : Int32) ∈ lw_tbl := tm_in1 (i := 789) (by decide +kernel)
set_option maxRecDepth 20000 in
theorem tz_k_9 : ∀ q ∈ tk_9, (fun q : Nat × Int32 => Jvm.Cond.constant (tm_names 9) q.1 q.2 ∈ lw_tbl) q := List.forall_mem_cons.mpr ⟨tz_k_9_178, fun _ h => absurd h List.not_mem_nil⟩
theorem tz_l_9_173 : Jvm.Cond.constantLong (tm_names 9) 173 (-9223372036854775808 : Int64) ∈ lw_tbl := tm_in1 (i := 780) (by decide +kernel)
set_option maxRecDepth 20000 in
theorem tz_l_9 : ∀ q ∈ tl_9, (fun q : Nat × Int64 => Jvm.Cond.constantLong (tm_names 9) q.1 q.2 ∈ lw_tbl) q := List.forall_mem_cons.mpr ⟨tz_l_9_173, fun _ h => absurd h List.not_mem_nil⟩
theorem tz_q_10_62 : tm_okq 10 (62, mX10_spread) := ⟨tz_mX10_spread, Or.inl (tm_in1 (i := 1654) (by decide +kernel))⟩
theorem tz_q_10_66 : tm_okq 10 (66, mX10_squares) := ⟨tz_mX10_squares, Or.inl (tm_in1 (i := 1650) (by decide +kernel))⟩
set_option maxRecDepth 20000 in
theorem tz_q_10 : ∀ q ∈ tq_10, tm_okq 10 q := List.forall_mem_cons.mpr ⟨tz_q_10_62, List.forall_mem_cons.mpr ⟨tz_q_10_66, fun _ h => absurd h List.not_mem_nil⟩⟩
set_option maxRecDepth 20000 in
theorem tz_c_10 : ∀ q ∈ tc_10, (fun q : Nat × Nat => ∃ C T N, vwCl[q.2]? = some (C, T, N) ∧ Jvm.Cond.classLink (tm_names 10) q.1 C ∈ lw_tbl) q := fun _ h => absurd h List.not_mem_nil
theorem tz_b_10_3 : tm_okb 10 (3, 3) := ⟨fun h => absurd h (by decide), fun h => absurd h (by decide), fun h => absurd h (by decide), fun _ => tm_in1 (i := 1346) (by decide +kernel), fun h => absurd h (by decide), fun h => absurd h (by decide), fun h => absurd h (by decide)⟩
set_option maxRecDepth 20000 in
theorem tz_b_10 : ∀ q ∈ tb_10, tm_okb 10 q := List.forall_mem_cons.mpr ⟨tz_b_10_3, fun _ h => absurd h List.not_mem_nil⟩
set_option maxRecDepth 20000 in
theorem tz_k_10 : ∀ q ∈ tk_10, (fun q : Nat × Int32 => Jvm.Cond.constant (tm_names 10) q.1 q.2 ∈ lw_tbl) q := fun _ h => absurd h List.not_mem_nil
set_option maxRecDepth 20000 in
theorem tz_l_10 : ∀ q ∈ tl_10, (fun q : Nat × Int64 => Jvm.Cond.constantLong (tm_names 10) q.1 q.2 ∈ lw_tbl) q := fun _ h => absurd h List.not_mem_nil
theorem tz_q_11_87 : tm_okq 11 (87, mX11_byteAt) := ⟨tz_mX11_byteAt, Or.inl (tm_in1 (i := 1446) (by decide +kernel))⟩
theorem tz_q_11_97 : tm_okq 11 (97, mX11_isLetter) := ⟨tz_mX11_isLetter, Or.inl (tm_in1 (i := 1450) (by decide +kernel))⟩
theorem tz_q_11_105 : tm_okq 11 (105, mX11_isDigit) := ⟨tz_mX11_isDigit, Or.inl (tm_in1 (i := 1454) (by decide +kernel))⟩
theorem tz_q_11_111 : tm_okq 11 (111, mX11_wrongHere) := ⟨tz_mX11_wrongHere, Or.inl (tm_in1 (i := 1483) (by decide +kernel))⟩
theorem tz_q_11_121 : tm_okq 11 (121, mX11_wordOf) := ⟨tz_mX11_wordOf, Or.inl (tm_in1 (i := 1470) (by decide +kernel))⟩
theorem tz_q_11_125 : tm_okq 11 (125, mX11_is) := ⟨tz_mX11_is, Or.inl (tm_in1 (i := 1554) (by decide +kernel))⟩
theorem tz_q_11_128 : tm_okq 11 (128, mX11_goesOn) := ⟨tz_mX11_goesOn, Or.inl (tm_in1 (i := 1442) (by decide +kernel))⟩
theorem tz_q_11_131 : tm_okq 11 (131, mX11_wrong) := ⟨tz_mX11_wrong, Or.inl (tm_in1 (i := 1479) (by decide +kernel))⟩
theorem tz_q_11_135 : tm_okq 11 (135, mX11_in) := ⟨tz_mX11_in, Or.inl (tm_in1 (i := 1496) (by decide +kernel))⟩
theorem tz_q_11_139 : tm_okq 11 (139, mX11_isWord) := ⟨tz_mX11_isWord, Or.inl (tm_in1 (i := 1466) (by decide +kernel))⟩
theorem tz_q_11_143 : tm_okq 11 (143, mX11_readWhole) := ⟨tz_mX11_readWhole, Or.inl (tm_in1 (i := 1492) (by decide +kernel))⟩
theorem tz_q_11_161 : tm_okq 11 (161, mX11_readLine) := ⟨tz_mX11_readLine, Or.inl (tm_in1 (i := 1461) (by decide +kernel))⟩
theorem tz_q_11_176 : tm_okq 11 (176, mX11_readBar) := ⟨tz_mX11_readBar, Or.inl (tm_in1 (i := 1475) (by decide +kernel))⟩
theorem tz_q_11_179 : tm_okq 11 (179, mX11_readWater) := ⟨tz_mX11_readWater, Or.inl (tm_in1 (i := 1501) (by decide +kernel))⟩
theorem tz_q_11_182 : tm_okq 11 (182, mX11_readKind) := ⟨tz_mX11_readKind, Or.inl (tm_in1 (i := 1510) (by decide +kernel))⟩
theorem tz_q_11_185 : tm_okq 11 (185, mX11_readTurn) := ⟨tz_mX11_readTurn, Or.inl (tm_in1 (i := 1533) (by decide +kernel))⟩
theorem tz_q_11_188 : tm_okq 11 (188, mX11_readRed) := ⟨tz_mX11_readRed, Or.inl (tm_in1 (i := 1539) (by decide +kernel))⟩
theorem tz_q_11_191 : tm_okq 11 (191, mX11_readStone) := ⟨tz_mX11_readStone, Or.inl (tm_in1 (i := 1544) (by decide +kernel))⟩
theorem tz_q_11_194 : tm_okq 11 (194, mX11_readSmith) := ⟨tz_mX11_readSmith, Or.inl (tm_in1 (i := 1558) (by decide +kernel))⟩
theorem tz_q_11_199 : tm_okq 11 (199, mX11_readPart) := ⟨tz_mX11_readPart, Or.inl (tm_in1 (i := 1488) (by decide +kernel))⟩
theorem tz_q_11_223 : tm_okq 11 (223, mX11_isName) := ⟨tz_mX11_isName, Or.inl (tm_in1 (i := 1518) (by decide +kernel))⟩
theorem tz_q_11_227 : tm_okq 11 (227, mX10_find) := ⟨tz_mX10_find, Or.inl (tm_in1 (i := 1526) (by decide +kernel))⟩
theorem tz_q_11_241 : tm_okq 11 (241, mX11_readNamed) := ⟨tz_mX11_readNamed, Or.inl (tm_in1 (i := 1514) (by decide +kernel))⟩
theorem tz_q_11_289 : tm_okq 11 (289, mX11_eatsComma) := ⟨tz_mX11_eatsComma, Or.inl (tm_in1 (i := 1550) (by decide +kernel))⟩
theorem tz_q_11_305 : tm_okq 11 (305, mX11_refused) := ⟨tz_mX11_refused, Or.inl (tm_in1 (i := 1337) (by decide +kernel))⟩
theorem tz_q_11_308 : tm_okq 11 (308, mX10_init) := ⟨tz_mX10_init, Or.inr ⟨RX11, tm_in1 (i := 1343) (by decide +kernel)⟩⟩
theorem tz_q_11_309 : tm_okq 11 (309, mX11_readBook) := ⟨tz_mX11_readBook, Or.inl (tm_in1 (i := 1457) (by decide +kernel))⟩
theorem tz_q_11_318 : tm_okq 11 (318, mX11_begins) := ⟨tz_mX11_begins, Or.inl (tm_in1 (i := 1562) (by decide +kernel))⟩
theorem tz_q_11_321 : tm_okq 11 (321, mX11_done) := ⟨tz_mX11_done, Or.inl (tm_in1 (i := 1566) (by decide +kernel))⟩
theorem tz_q_11_324 : tm_okq 11 (324, mX11_flows) := ⟨tz_mX11_flows, Or.inl (tm_in1 (i := 1614) (by decide +kernel))⟩
theorem tz_q_11_327 : tm_okq 11 (327, mX11_cooled) := ⟨tz_mX11_cooled, Or.inl (tm_in1 (i := 1610) (by decide +kernel))⟩
theorem tz_q_11_331 : tm_okq 11 (331, mX11_turnsTo) := ⟨tz_mX11_turnsTo, Or.inl (tm_in1 (i := 1618) (by decide +kernel))⟩
theorem tz_q_11_337 : tm_okq 11 (337, mX11_sizeOf) := ⟨tz_mX11_sizeOf, Or.inl (tm_in1 (i := 1630) (by decide +kernel))⟩
theorem tz_q_11_341 : tm_okq 11 (341, mX10_spread) := ⟨tz_mX10_spread, Or.inl (tm_in1 (i := 1634) (by decide +kernel))⟩
theorem tz_q_11_344 : tm_okq 11 (344, mX10_wholePull) := ⟨tz_mX10_wholePull, Or.inl (tm_in1 (i := 1646) (by decide +kernel))⟩
theorem tz_q_11_347 : tm_okq 11 (347, mX10_squares) := ⟨tz_mX10_squares, Or.inl (tm_in1 (i := 1655) (by decide +kernel))⟩
theorem tz_q_11_350 : tm_okq 11 (350, mX11_curveOf) := ⟨tz_mX11_curveOf, Or.inl (tm_in1 (i := 1626) (by decide +kernel))⟩
theorem tz_q_11_353 : tm_okq 11 (353, mX11_pullOf) := ⟨tz_mX11_pullOf, Or.inl (tm_in1 (i := 1642) (by decide +kernel))⟩
theorem tz_q_11_369 : tm_okq 11 (369, mX11_cools) := ⟨tz_mX11_cools, Or.inl (tm_in1 (i := 1606) (by decide +kernel))⟩
theorem tz_q_11_373 : tm_okq 11 (373, mX11_bendOf) := ⟨tz_mX11_bendOf, Or.inl (tm_in1 (i := 1622) (by decide +kernel))⟩
theorem tz_q_11_376 : tm_okq 11 (376, mX11_cracks) := ⟨tz_mX11_cracks, Or.inl (tm_in1 (i := 1638) (by decide +kernel))⟩
theorem tz_q_11_379 : tm_okq 11 (379, mX11_denied) := ⟨tz_mX11_denied, Or.inl (tm_in1 (i := 1582) (by decide +kernel))⟩
theorem tz_q_11_382 : tm_okq 11 (382, mX11_granted) := ⟨tz_mX11_granted, Or.inl (tm_in1 (i := 1586) (by decide +kernel))⟩
theorem tz_q_11_385 : tm_okq 11 (385, mX11_isCell) := ⟨tz_mX11_isCell, Or.inl (tm_in1 (i := 1594) (by decide +kernel))⟩
theorem tz_q_11_389 : tm_okq 11 (389, mX11_passes) := ⟨tz_mX11_passes, Or.inl (tm_in1 (i := 1602) (by decide +kernel))⟩
theorem tz_q_11_392 : tm_okq 11 (392, mX11_lost) := ⟨tz_mX11_lost, Or.inl (tm_in1 (i := 1668) (by decide +kernel))⟩
theorem tz_q_11_396 : tm_okq 11 (396, mX11_isCut) := ⟨tz_mX11_isCut, Or.inl (tm_in1 (i := 1677) (by decide +kernel))⟩
theorem tz_q_11_399 : tm_okq 11 (399, mX11_gone) := ⟨tz_mX11_gone, Or.inl (tm_in1 (i := 1681) (by decide +kernel))⟩
theorem tz_q_11_402 : tm_okq 11 (402, mX11_cloudOf) := ⟨tz_mX11_cloudOf, Or.inl (tm_in1 (i := 1702) (by decide +kernel))⟩
theorem tz_q_11_406 : tm_okq 11 (406, mX11_tries) := ⟨tz_mX11_tries, Or.inl (tm_in1 (i := 1714) (by decide +kernel))⟩
theorem tz_q_11_409 : tm_okq 11 (409, mX11_claysBy) := ⟨tz_mX11_claysBy, Or.inl (tm_in1 (i := 1730) (by decide +kernel))⟩
theorem tz_q_11_412 : tm_okq 11 (412, mX11_bounded) := ⟨tz_mX11_bounded, Or.inl (tm_in1 (i := 1734) (by decide +kernel))⟩
theorem tz_q_11_415 : tm_okq 11 (415, mX11_refusesScatter) := ⟨tz_mX11_refusesScatter, Or.inl (tm_in1 (i := 1722) (by decide +kernel))⟩
theorem tz_q_11_419 : tm_okq 11 (419, mX11_scattered) := ⟨tz_mX11_scattered, Or.inl (tm_in1 (i := 1726) (by decide +kernel))⟩
theorem tz_q_11_423 : tm_okq 11 (423, mX11_folds) := ⟨tz_mX11_folds, Or.inl (tm_in1 (i := 1753) (by decide +kernel))⟩
theorem tz_q_11_427 : tm_okq 11 (427, mX11_isEven) := ⟨tz_mX11_isEven, Or.inl (tm_in1 (i := 1764) (by decide +kernel))⟩
theorem tz_q_11_431 : tm_okq 11 (431, mX11_colourOf) := ⟨tz_mX11_colourOf, Or.inl (tm_in1 (i := 1771) (by decide +kernel))⟩
theorem tz_q_11_434 : tm_okq 11 (434, mX11_daysOf) := ⟨tz_mX11_daysOf, Or.inl (tm_in1 (i := 1787) (by decide +kernel))⟩
theorem tz_q_11_437 : tm_okq 11 (437, mX11_stonesFor) := ⟨tz_mX11_stonesFor, Or.inl (tm_in1 (i := 1783) (by decide +kernel))⟩
theorem tz_q_11_440 : tm_okq 11 (440, mX11_productOf) := ⟨tz_mX11_productOf, Or.inl (tm_in1 (i := 1799) (by decide +kernel))⟩
theorem tz_q_11_444 : tm_okq 11 (444, mX11_differs) := ⟨tz_mX11_differs, Or.inl (tm_in1 (i := 1815) (by decide +kernel))⟩
set_option maxRecDepth 20000 in
theorem tz_q_11 : ∀ q ∈ tq_11, tm_okq 11 q := List.forall_mem_cons.mpr ⟨tz_q_11_87, List.forall_mem_cons.mpr ⟨tz_q_11_97, List.forall_mem_cons.mpr ⟨tz_q_11_105, List.forall_mem_cons.mpr ⟨tz_q_11_111, List.forall_mem_cons.mpr ⟨tz_q_11_121, List.forall_mem_cons.mpr ⟨tz_q_11_125, List.forall_mem_cons.mpr ⟨tz_q_11_128, List.forall_mem_cons.mpr ⟨tz_q_11_131, List.forall_mem_cons.mpr ⟨tz_q_11_135, List.forall_mem_cons.mpr ⟨tz_q_11_139, List.forall_mem_cons.mpr ⟨tz_q_11_143, List.forall_mem_cons.mpr ⟨tz_q_11_161, List.forall_mem_cons.mpr ⟨tz_q_11_176, List.forall_mem_cons.mpr ⟨tz_q_11_179, List.forall_mem_cons.mpr ⟨tz_q_11_182, List.forall_mem_cons.mpr ⟨tz_q_11_185, List.forall_mem_cons.mpr ⟨tz_q_11_188, List.forall_mem_cons.mpr ⟨tz_q_11_191, List.forall_mem_cons.mpr ⟨tz_q_11_194, List.forall_mem_cons.mpr ⟨tz_q_11_199, List.forall_mem_cons.mpr ⟨tz_q_11_223, List.forall_mem_cons.mpr ⟨tz_q_11_227, List.forall_mem_cons.mpr ⟨tz_q_11_241, List.forall_mem_cons.mpr ⟨tz_q_11_289, List.forall_mem_cons.mpr ⟨tz_q_11_305, List.forall_mem_cons.mpr ⟨tz_q_11_308, List.forall_mem_cons.mpr ⟨tz_q_11_309, List.forall_mem_cons.mpr ⟨tz_q_11_318, List.forall_mem_cons.mpr ⟨tz_q_11_321, List.forall_mem_cons.mpr ⟨tz_q_11_324, List.forall_mem_cons.mpr ⟨tz_q_11_327, List.forall_mem_cons.mpr ⟨tz_q_11_331, List.forall_mem_cons.mpr ⟨tz_q_11_337, List.forall_mem_cons.mpr ⟨tz_q_11_341, List.forall_mem_cons.mpr ⟨tz_q_11_344, List.forall_mem_cons.mpr ⟨tz_q_11_347, List.forall_mem_cons.mpr ⟨tz_q_11_350, List.forall_mem_cons.mpr ⟨tz_q_11_353, List.forall_mem_cons.mpr ⟨tz_q_11_369, List.forall_mem_cons.mpr ⟨tz_q_11_373, List.forall_mem_cons.mpr ⟨tz_q_11_376, List.forall_mem_cons.mpr ⟨tz_q_11_379, List.forall_mem_cons.mpr ⟨tz_q_11_382, List.forall_mem_cons.mpr ⟨tz_q_11_385, List.forall_mem_cons.mpr ⟨tz_q_11_389, List.forall_mem_cons.mpr ⟨tz_q_11_392, List.forall_mem_cons.mpr ⟨tz_q_11_396, List.forall_mem_cons.mpr ⟨tz_q_11_399, List.forall_mem_cons.mpr ⟨tz_q_11_402, List.forall_mem_cons.mpr ⟨tz_q_11_406, List.forall_mem_cons.mpr ⟨tz_q_11_409, List.forall_mem_cons.mpr ⟨tz_q_11_412, List.forall_mem_cons.mpr ⟨tz_q_11_415, List.forall_mem_cons.mpr ⟨tz_q_11_419, List.forall_mem_cons.mpr ⟨tz_q_11_423, List.forall_mem_cons.mpr ⟨tz_q_11_427, List.forall_mem_cons.mpr ⟨tz_q_11_431, List.forall_mem_cons.mpr ⟨tz_q_11_434, List.forall_mem_cons.mpr ⟨tz_q_11_437, List.forall_mem_cons.mpr ⟨tz_q_11_440, List.forall_mem_cons.mpr ⟨tz_q_11_444, fun _ h => absurd h List.not_mem_nil⟩⟩⟩⟩⟩⟩⟩⟩⟩⟩⟩⟩⟩⟩⟩⟩⟩⟩⟩⟩⟩⟩⟩⟩⟩⟩⟩⟩⟩⟩⟩⟩⟩⟩⟩⟩⟩⟩⟩⟩⟩⟩⟩⟩⟩⟩⟩⟩⟩⟩⟩⟩⟩⟩⟩⟩⟩⟩⟩⟩⟩
theorem tz_c_11_169 : ∃ C T N, vwCl[10]? = some (C, T, N) ∧ Jvm.Cond.classLink (tm_names 11) 169 C ∈ lw_tbl := ⟨RX10, TX10, 26, rfl, tm_in1 (i := 1341) (by decide +kernel)⟩
set_option maxRecDepth 20000 in
theorem tz_c_11 : ∀ q ∈ tc_11, (fun q : Nat × Nat => ∃ C T N, vwCl[q.2]? = some (C, T, N) ∧ Jvm.Cond.classLink (tm_names 11) q.1 C ∈ lw_tbl) q := List.forall_mem_cons.mpr ⟨tz_c_11_169, fun _ h => absurd h List.not_mem_nil⟩
theorem tz_b_11_3 : tm_okb 11 (3, 3) := ⟨fun h => absurd h (by decide), fun h => absurd h (by decide), fun h => absurd h (by decide), fun _ => tm_in1 (i := 1218) (by decide +kernel), fun h => absurd h (by decide), fun h => absurd h (by decide), fun h => absurd h (by decide)⟩
theorem tz_b_11_69 : tm_okb 11 (69, 0) := ⟨fun _ => tm_in1 (i := 1473) (by decide +kernel), fun h => absurd h (by decide), fun h => absurd h (by decide), fun h => absurd h (by decide), fun h => absurd h (by decide), fun h => absurd h (by decide), fun h => absurd h (by decide)⟩
theorem tz_b_11_77 : tm_okb 11 (77, 1) := ⟨fun h => absurd h (by decide), fun _ => tm_in1 (i := 1474) (by decide +kernel), fun h => absurd h (by decide), fun h => absurd h (by decide), fun h => absurd h (by decide), fun h => absurd h (by decide), fun h => absurd h (by decide)⟩
set_option maxRecDepth 20000 in
theorem tz_b_11 : ∀ q ∈ tb_11, tm_okb 11 q := List.forall_mem_cons.mpr ⟨tz_b_11_3, List.forall_mem_cons.mpr ⟨tz_b_11_69, List.forall_mem_cons.mpr ⟨tz_b_11_77, fun _ h => absurd h List.not_mem_nil⟩⟩⟩
theorem tz_k_11_65 : Jvm.Cond.constant (tm_names 11) 65 (-2147483648 : Int32) ∈ lw_tbl := tm_in1 (i := 1685) (by decide +kernel)
set_option maxRecDepth 20000 in
theorem tz_k_11 : ∀ q ∈ tk_11, (fun q : Nat × Int32 => Jvm.Cond.constant (tm_names 11) q.1 q.2 ∈ lw_tbl) q := List.forall_mem_cons.mpr ⟨tz_k_11_65, fun _ h => absurd h List.not_mem_nil⟩
theorem tz_l_11_75 : Jvm.Cond.constantLong (tm_names 11) 75 (32 : Int64) ∈ lw_tbl := tm_in1 (i := 1453) (by decide +kernel)
theorem tz_l_11_63 : Jvm.Cond.constantLong (tm_names 11) 63 (-9223372036854775808 : Int64) ∈ lw_tbl := tm_in1 (i := 1672) (by decide +kernel)
set_option maxRecDepth 20000 in
theorem tz_l_11 : ∀ q ∈ tl_11, (fun q : Nat × Int64 => Jvm.Cond.constantLong (tm_names 11) q.1 q.2 ∈ lw_tbl) q := List.forall_mem_cons.mpr ⟨tz_l_11_75, List.forall_mem_cons.mpr ⟨tz_l_11_63, fun _ h => absurd h List.not_mem_nil⟩⟩
set_option maxRecDepth 20000 in
theorem tz_q_21 : ∀ q ∈ tq_21, tm_okq 21 q := fun _ h => absurd h List.not_mem_nil
set_option maxRecDepth 20000 in
theorem tz_c_21 : ∀ q ∈ tc_21, (fun q : Nat × Nat => ∃ C T N, vwCl[q.2]? = some (C, T, N) ∧ Jvm.Cond.classLink (tm_names 21) q.1 C ∈ lw_tbl) q := fun _ h => absurd h List.not_mem_nil
set_option maxRecDepth 20000 in
theorem tz_b_21 : ∀ q ∈ tb_21, tm_okb 21 q := fun _ h => absurd h List.not_mem_nil
set_option maxRecDepth 20000 in
theorem tz_k_21 : ∀ q ∈ tk_21, (fun q : Nat × Int32 => Jvm.Cond.constant (tm_names 21) q.1 q.2 ∈ lw_tbl) q := fun _ h => absurd h List.not_mem_nil
set_option maxRecDepth 20000 in
theorem tz_l_21 : ∀ q ∈ tl_21, (fun q : Nat × Int64 => Jvm.Cond.constantLong (tm_names 21) q.1 q.2 ∈ lw_tbl) q := fun _ h => absurd h List.not_mem_nil
set_option maxRecDepth 20000 in
theorem tz_q_22 : ∀ q ∈ tq_22, tm_okq 22 q := fun _ h => absurd h List.not_mem_nil
set_option maxRecDepth 20000 in
theorem tz_c_22 : ∀ q ∈ tc_22, (fun q : Nat × Nat => ∃ C T N, vwCl[q.2]? = some (C, T, N) ∧ Jvm.Cond.classLink (tm_names 22) q.1 C ∈ lw_tbl) q := fun _ h => absurd h List.not_mem_nil
set_option maxRecDepth 20000 in
theorem tz_b_22 : ∀ q ∈ tb_22, tm_okb 22 q := fun _ h => absurd h List.not_mem_nil
set_option maxRecDepth 20000 in
theorem tz_k_22 : ∀ q ∈ tk_22, (fun q : Nat × Int32 => Jvm.Cond.constant (tm_names 22) q.1 q.2 ∈ lw_tbl) q := fun _ h => absurd h List.not_mem_nil
set_option maxRecDepth 20000 in
theorem tz_l_22 : ∀ q ∈ tl_22, (fun q : Nat × Int64 => Jvm.Cond.constantLong (tm_names 22) q.1 q.2 ∈ lw_tbl) q := fun _ h => absurd h List.not_mem_nil
theorem tm_dv0 : tm_wv 0 (.int 0) ∧ ∀ ρ σ : Nat → Nat, tm_vm ρ σ (.int 0) = .int 0 := ⟨tm_wv_int _ _, fun _ _ => rfl⟩
theorem tm_dv1 : tm_wv 0 (.long 0) ∧ ∀ ρ σ : Nat → Nat, tm_vm ρ σ (.long 0) = .long 0 := ⟨tm_wv_long _ _, fun _ _ => rfl⟩
theorem tm_dv2 : tm_wv 0 .null ∧ ∀ ρ σ : Nat → Nat, tm_vm ρ σ .null = .null := ⟨tm_wv_null _, fun _ _ => rfl⟩
set_option maxRecDepth 20000 in
theorem tz_w_0 : ∀ w ∈ u_ws RX0 TX0 4, w ∈ lw_tbl := by
  show ∀ w ∈ [u_lay RX0 TX0 0, u_lay RX0 TX0 1, u_lay RX0 TX0 2, u_lay RX0 TX0 3], w ∈ lw_tbl
  exact List.forall_mem_cons.mpr ⟨tm_in1 (i := 263) (by decide +kernel), List.forall_mem_cons.mpr ⟨tm_in1 (i := 265) (by decide +kernel), List.forall_mem_cons.mpr ⟨tm_in1 (i := 267) (by decide +kernel), List.forall_mem_cons.mpr ⟨tm_in1 (i := 269) (by decide +kernel), fun _ h => absurd h List.not_mem_nil⟩⟩⟩⟩
theorem tz_C_0 : (∀ w ∈ u_ws RX0 TX0 4, w ∈ lw_tbl) ∧ (∀ k, k < 4 → parseFieldDescriptor (TX0 k).2.2.1 = some (tm_ty tm_G 0 k)) ∧ (∀ a, a < 4 → ∀ b, b < 4 → a ≠ b → (TX0 a).2.1 ≠ (TX0 b).2.1) ∧ Jvm.Cond.instantiable RX0 4 ∈ lw_tbl ∧ Jvm.Cond.initialized RX0 ∈ lw_tbl ∧ (tm_df tm_G 0).length = 4 ∧ (∀ j, j < 4 → defaultValue (tm_ty tm_G 0 j) = vp_V (tm_df tm_G 0) j) ∧ (∀ v ∈ tm_df tm_G 0, tm_wv 0 v ∧ ∀ ρ σ : Nat → Nat, tm_vm ρ σ v = v) ∧ (∀ k, k < 4 → (TX0 k).1 = RX0) ∧ tm_nm tm_G 0 = RX0 :=
  ⟨tz_w_0, tyX0_ok, nmX0, tm_in1 (i := 192) (by decide +kernel), tm_in1 (i := 8) (by decide +kernel), rfl, by decide +kernel, by
    show ∀ v ∈ ([.null, .int 0, .int 0, .int 0] : List Value), _
    exact List.forall_mem_cons.mpr ⟨tm_dv2, List.forall_mem_cons.mpr ⟨tm_dv0, List.forall_mem_cons.mpr ⟨tm_dv0, List.forall_mem_cons.mpr ⟨tm_dv0, fun _ h => absurd h List.not_mem_nil⟩⟩⟩⟩, by decide +kernel, rfl⟩
set_option maxRecDepth 20000 in
theorem tz_w_1 : ∀ w ∈ u_ws RX1 TX1 3, w ∈ lw_tbl := by
  show ∀ w ∈ [u_lay RX1 TX1 0, u_lay RX1 TX1 1, u_lay RX1 TX1 2], w ∈ lw_tbl
  exact List.forall_mem_cons.mpr ⟨tm_in1 (i := 42) (by decide +kernel), List.forall_mem_cons.mpr ⟨tm_in1 (i := 44) (by decide +kernel), List.forall_mem_cons.mpr ⟨tm_in1 (i := 46) (by decide +kernel), fun _ h => absurd h List.not_mem_nil⟩⟩⟩
theorem tz_C_1 : (∀ w ∈ u_ws RX1 TX1 3, w ∈ lw_tbl) ∧ (∀ k, k < 3 → parseFieldDescriptor (TX1 k).2.2.1 = some (tm_ty tm_G 1 k)) ∧ (∀ a, a < 3 → ∀ b, b < 3 → a ≠ b → (TX1 a).2.1 ≠ (TX1 b).2.1) ∧ Jvm.Cond.instantiable RX1 3 ∈ lw_tbl ∧ Jvm.Cond.initialized RX1 ∈ lw_tbl ∧ (tm_df tm_G 1).length = 3 ∧ (∀ j, j < 3 → defaultValue (tm_ty tm_G 1 j) = vp_V (tm_df tm_G 1) j) ∧ (∀ v ∈ tm_df tm_G 1, tm_wv 0 v ∧ ∀ ρ σ : Nat → Nat, tm_vm ρ σ v = v) ∧ (∀ k, k < 3 → (TX1 k).1 = RX1) ∧ tm_nm tm_G 1 = RX1 :=
  ⟨tz_w_1, tyX1_ok, nmX1, tm_in1 (i := 34) (by decide +kernel), tm_in1 (i := 2) (by decide +kernel), rfl, by decide +kernel, by
    show ∀ v ∈ ([.null, .null, .int 0] : List Value), _
    exact List.forall_mem_cons.mpr ⟨tm_dv2, List.forall_mem_cons.mpr ⟨tm_dv2, List.forall_mem_cons.mpr ⟨tm_dv0, fun _ h => absurd h List.not_mem_nil⟩⟩⟩, by decide +kernel, rfl⟩
set_option maxRecDepth 20000 in
theorem tz_w_2 : ∀ w ∈ u_ws RX2 TX2 4, w ∈ lw_tbl := by
  show ∀ w ∈ [u_lay RX2 TX2 0, u_lay RX2 TX2 1, u_lay RX2 TX2 2, u_lay RX2 TX2 3], w ∈ lw_tbl
  exact List.forall_mem_cons.mpr ⟨tm_in1 (i := 61) (by decide +kernel), List.forall_mem_cons.mpr ⟨tm_in1 (i := 63) (by decide +kernel), List.forall_mem_cons.mpr ⟨tm_in1 (i := 65) (by decide +kernel), List.forall_mem_cons.mpr ⟨tm_in1 (i := 67) (by decide +kernel), fun _ h => absurd h List.not_mem_nil⟩⟩⟩⟩
theorem tz_C_2 : (∀ w ∈ u_ws RX2 TX2 4, w ∈ lw_tbl) ∧ (∀ k, k < 4 → parseFieldDescriptor (TX2 k).2.2.1 = some (tm_ty tm_G 2 k)) ∧ (∀ a, a < 4 → ∀ b, b < 4 → a ≠ b → (TX2 a).2.1 ≠ (TX2 b).2.1) ∧ Jvm.Cond.instantiable RX2 4 ∈ lw_tbl ∧ Jvm.Cond.initialized RX2 ∈ lw_tbl ∧ (tm_df tm_G 2).length = 4 ∧ (∀ j, j < 4 → defaultValue (tm_ty tm_G 2 j) = vp_V (tm_df tm_G 2) j) ∧ (∀ v ∈ tm_df tm_G 2, tm_wv 0 v ∧ ∀ ρ σ : Nat → Nat, tm_vm ρ σ v = v) ∧ (∀ k, k < 4 → (TX2 k).1 = RX2) ∧ tm_nm tm_G 2 = RX2 :=
  ⟨tz_w_2, tyX2_ok, nmX2, tm_in1 (i := 52) (by decide +kernel), tm_in1 (i := 3) (by decide +kernel), rfl, by decide +kernel, by
    show ∀ v ∈ ([.null, .null, .null, .int 0] : List Value), _
    exact List.forall_mem_cons.mpr ⟨tm_dv2, List.forall_mem_cons.mpr ⟨tm_dv2, List.forall_mem_cons.mpr ⟨tm_dv2, List.forall_mem_cons.mpr ⟨tm_dv0, fun _ h => absurd h List.not_mem_nil⟩⟩⟩⟩, by decide +kernel, rfl⟩
set_option maxRecDepth 20000 in
theorem tz_w_3 : ∀ w ∈ u_ws RX3 TX3 9, w ∈ lw_tbl := by
  show ∀ w ∈ [u_lay RX3 TX3 0, u_lay RX3 TX3 1, u_lay RX3 TX3 2, u_lay RX3 TX3 3, u_lay RX3 TX3 4, u_lay RX3 TX3 5, u_lay RX3 TX3 6, u_lay RX3 TX3 7, u_lay RX3 TX3 8], w ∈ lw_tbl
  exact List.forall_mem_cons.mpr ⟨tm_in1 (i := 121) (by decide +kernel), List.forall_mem_cons.mpr ⟨tm_in1 (i := 123) (by decide +kernel), List.forall_mem_cons.mpr ⟨tm_in1 (i := 125) (by decide +kernel), List.forall_mem_cons.mpr ⟨tm_in1 (i := 127) (by decide +kernel), List.forall_mem_cons.mpr ⟨tm_in1 (i := 129) (by decide +kernel), List.forall_mem_cons.mpr ⟨tm_in1 (i := 131) (by decide +kernel), List.forall_mem_cons.mpr ⟨tm_in1 (i := 133) (by decide +kernel), List.forall_mem_cons.mpr ⟨tm_in1 (i := 135) (by decide +kernel), List.forall_mem_cons.mpr ⟨tm_in1 (i := 137) (by decide +kernel), fun _ h => absurd h List.not_mem_nil⟩⟩⟩⟩⟩⟩⟩⟩⟩
theorem tz_C_3 : (∀ w ∈ u_ws RX3 TX3 9, w ∈ lw_tbl) ∧ (∀ k, k < 9 → parseFieldDescriptor (TX3 k).2.2.1 = some (tm_ty tm_G 3 k)) ∧ (∀ a, a < 9 → ∀ b, b < 9 → a ≠ b → (TX3 a).2.1 ≠ (TX3 b).2.1) ∧ Jvm.Cond.instantiable RX3 9 ∈ lw_tbl ∧ Jvm.Cond.initialized RX3 ∈ lw_tbl ∧ (tm_df tm_G 3).length = 9 ∧ (∀ j, j < 9 → defaultValue (tm_ty tm_G 3 j) = vp_V (tm_df tm_G 3) j) ∧ (∀ v ∈ tm_df tm_G 3, tm_wv 0 v ∧ ∀ ρ σ : Nat → Nat, tm_vm ρ σ v = v) ∧ (∀ k, k < 9 → (TX3 k).1 = RX3) ∧ tm_nm tm_G 3 = RX3 :=
  ⟨tz_w_3, tyX3_ok, nmX3, tm_in1 (i := 71) (by decide +kernel), tm_in1 (i := 4) (by decide +kernel), rfl, by decide +kernel, by
    show ∀ v ∈ ([.null, .null, .null, .null, .null, .null, .null, .int 0, .int 0] : List Value), _
    exact List.forall_mem_cons.mpr ⟨tm_dv2, List.forall_mem_cons.mpr ⟨tm_dv2, List.forall_mem_cons.mpr ⟨tm_dv2, List.forall_mem_cons.mpr ⟨tm_dv2, List.forall_mem_cons.mpr ⟨tm_dv2, List.forall_mem_cons.mpr ⟨tm_dv2, List.forall_mem_cons.mpr ⟨tm_dv2, List.forall_mem_cons.mpr ⟨tm_dv0, List.forall_mem_cons.mpr ⟨tm_dv0, fun _ h => absurd h List.not_mem_nil⟩⟩⟩⟩⟩⟩⟩⟩⟩, by decide +kernel, rfl⟩
set_option maxRecDepth 20000 in
theorem tz_w_4 : ∀ w ∈ u_ws RX4 TX4 18, w ∈ lw_tbl := by
  show ∀ w ∈ [u_lay RX4 TX4 0, u_lay RX4 TX4 1, u_lay RX4 TX4 2, u_lay RX4 TX4 3, u_lay RX4 TX4 4, u_lay RX4 TX4 5, u_lay RX4 TX4 6, u_lay RX4 TX4 7, u_lay RX4 TX4 8, u_lay RX4 TX4 9, u_lay RX4 TX4 10, u_lay RX4 TX4 11, u_lay RX4 TX4 12, u_lay RX4 TX4 13, u_lay RX4 TX4 14, u_lay RX4 TX4 15, u_lay RX4 TX4 16, u_lay RX4 TX4 17], w ∈ lw_tbl
  exact List.forall_mem_cons.mpr ⟨tm_in1 (i := 221) (by decide +kernel), List.forall_mem_cons.mpr ⟨tm_in1 (i := 223) (by decide +kernel), List.forall_mem_cons.mpr ⟨tm_in1 (i := 225) (by decide +kernel), List.forall_mem_cons.mpr ⟨tm_in1 (i := 227) (by decide +kernel), List.forall_mem_cons.mpr ⟨tm_in1 (i := 229) (by decide +kernel), List.forall_mem_cons.mpr ⟨tm_in1 (i := 231) (by decide +kernel), List.forall_mem_cons.mpr ⟨tm_in1 (i := 233) (by decide +kernel), List.forall_mem_cons.mpr ⟨tm_in1 (i := 235) (by decide +kernel), List.forall_mem_cons.mpr ⟨tm_in1 (i := 237) (by decide +kernel), List.forall_mem_cons.mpr ⟨tm_in1 (i := 239) (by decide +kernel), List.forall_mem_cons.mpr ⟨tm_in1 (i := 241) (by decide +kernel), List.forall_mem_cons.mpr ⟨tm_in1 (i := 243) (by decide +kernel), List.forall_mem_cons.mpr ⟨tm_in1 (i := 245) (by decide +kernel), List.forall_mem_cons.mpr ⟨tm_in1 (i := 247) (by decide +kernel), List.forall_mem_cons.mpr ⟨tm_in1 (i := 249) (by decide +kernel), List.forall_mem_cons.mpr ⟨tm_in1 (i := 251) (by decide +kernel), List.forall_mem_cons.mpr ⟨tm_in1 (i := 253) (by decide +kernel), List.forall_mem_cons.mpr ⟨tm_in1 (i := 255) (by decide +kernel), fun _ h => absurd h List.not_mem_nil⟩⟩⟩⟩⟩⟩⟩⟩⟩⟩⟩⟩⟩⟩⟩⟩⟩⟩
theorem tz_C_4 : (∀ w ∈ u_ws RX4 TX4 18, w ∈ lw_tbl) ∧ (∀ k, k < 18 → parseFieldDescriptor (TX4 k).2.2.1 = some (tm_ty tm_G 4 k)) ∧ (∀ a, a < 18 → ∀ b, b < 18 → a ≠ b → (TX4 a).2.1 ≠ (TX4 b).2.1) ∧ Jvm.Cond.instantiable RX4 18 ∈ lw_tbl ∧ Jvm.Cond.initialized RX4 ∈ lw_tbl ∧ (tm_df tm_G 4).length = 18 ∧ (∀ j, j < 18 → defaultValue (tm_ty tm_G 4 j) = vp_V (tm_df tm_G 4) j) ∧ (∀ v ∈ tm_df tm_G 4, tm_wv 0 v ∧ ∀ ρ σ : Nat → Nat, tm_vm ρ σ v = v) ∧ (∀ k, k < 18 → (TX4 k).1 = RX4) ∧ tm_nm tm_G 4 = RX4 :=
  ⟨tz_w_4, tyX4_ok, nmX4, tm_in1 (i := 198) (by decide +kernel), tm_in1 (i := 9) (by decide +kernel), rfl, by decide +kernel, by
    show ∀ v ∈ ([.null, .null, .null, .null, .null, .null, .null, .null, .null, .null, .null, .int 0, .int 0, .int 0, .int 0, .int 0, .int 0, .int 0] : List Value), _
    exact List.forall_mem_cons.mpr ⟨tm_dv2, List.forall_mem_cons.mpr ⟨tm_dv2, List.forall_mem_cons.mpr ⟨tm_dv2, List.forall_mem_cons.mpr ⟨tm_dv2, List.forall_mem_cons.mpr ⟨tm_dv2, List.forall_mem_cons.mpr ⟨tm_dv2, List.forall_mem_cons.mpr ⟨tm_dv2, List.forall_mem_cons.mpr ⟨tm_dv2, List.forall_mem_cons.mpr ⟨tm_dv2, List.forall_mem_cons.mpr ⟨tm_dv2, List.forall_mem_cons.mpr ⟨tm_dv2, List.forall_mem_cons.mpr ⟨tm_dv0, List.forall_mem_cons.mpr ⟨tm_dv0, List.forall_mem_cons.mpr ⟨tm_dv0, List.forall_mem_cons.mpr ⟨tm_dv0, List.forall_mem_cons.mpr ⟨tm_dv0, List.forall_mem_cons.mpr ⟨tm_dv0, List.forall_mem_cons.mpr ⟨tm_dv0, fun _ h => absurd h List.not_mem_nil⟩⟩⟩⟩⟩⟩⟩⟩⟩⟩⟩⟩⟩⟩⟩⟩⟩⟩, by decide +kernel, rfl⟩
set_option maxRecDepth 20000 in
theorem tz_w_5 : ∀ w ∈ u_ws RX5 TX5 4, w ∈ lw_tbl := by
  show ∀ w ∈ [u_lay RX5 TX5 0, u_lay RX5 TX5 1, u_lay RX5 TX5 2, u_lay RX5 TX5 3], w ∈ lw_tbl
  exact List.forall_mem_cons.mpr ⟨tm_in1 (i := 86) (by decide +kernel), List.forall_mem_cons.mpr ⟨tm_in1 (i := 88) (by decide +kernel), List.forall_mem_cons.mpr ⟨tm_in1 (i := 90) (by decide +kernel), List.forall_mem_cons.mpr ⟨tm_in1 (i := 92) (by decide +kernel), fun _ h => absurd h List.not_mem_nil⟩⟩⟩⟩
theorem tz_C_5 : (∀ w ∈ u_ws RX5 TX5 4, w ∈ lw_tbl) ∧ (∀ k, k < 4 → parseFieldDescriptor (TX5 k).2.2.1 = some (tm_ty tm_G 5 k)) ∧ (∀ a, a < 4 → ∀ b, b < 4 → a ≠ b → (TX5 a).2.1 ≠ (TX5 b).2.1) ∧ Jvm.Cond.instantiable RX5 4 ∈ lw_tbl ∧ Jvm.Cond.initialized RX5 ∈ lw_tbl ∧ (tm_df tm_G 5).length = 4 ∧ (∀ j, j < 4 → defaultValue (tm_ty tm_G 5 j) = vp_V (tm_df tm_G 5) j) ∧ (∀ v ∈ tm_df tm_G 5, tm_wv 0 v ∧ ∀ ρ σ : Nat → Nat, tm_vm ρ σ v = v) ∧ (∀ k, k < 4 → (TX5 k).1 = RX5) ∧ tm_nm tm_G 5 = RX5 :=
  ⟨tz_w_5, tyX5_ok, nmX5, tm_in1 (i := 77) (by decide +kernel), tm_in1 (i := 5) (by decide +kernel), rfl, by decide +kernel, by
    show ∀ v ∈ ([.int 0, .int 0, .null, .int 0] : List Value), _
    exact List.forall_mem_cons.mpr ⟨tm_dv0, List.forall_mem_cons.mpr ⟨tm_dv0, List.forall_mem_cons.mpr ⟨tm_dv2, List.forall_mem_cons.mpr ⟨tm_dv0, fun _ h => absurd h List.not_mem_nil⟩⟩⟩⟩, by decide +kernel, rfl⟩
set_option maxRecDepth 20000 in
theorem tz_w_6 : ∀ w ∈ u_ws RX6 TX6 7, w ∈ lw_tbl := by
  show ∀ w ∈ [u_lay RX6 TX6 0, u_lay RX6 TX6 1, u_lay RX6 TX6 2, u_lay RX6 TX6 3, u_lay RX6 TX6 4, u_lay RX6 TX6 5, u_lay RX6 TX6 6], w ∈ lw_tbl
  exact List.forall_mem_cons.mpr ⟨tm_in1 (i := 175) (by decide +kernel), List.forall_mem_cons.mpr ⟨tm_in1 (i := 177) (by decide +kernel), List.forall_mem_cons.mpr ⟨tm_in1 (i := 179) (by decide +kernel), List.forall_mem_cons.mpr ⟨tm_in1 (i := 181) (by decide +kernel), List.forall_mem_cons.mpr ⟨tm_in1 (i := 183) (by decide +kernel), List.forall_mem_cons.mpr ⟨tm_in1 (i := 185) (by decide +kernel), List.forall_mem_cons.mpr ⟨tm_in1 (i := 187) (by decide +kernel), fun _ h => absurd h List.not_mem_nil⟩⟩⟩⟩⟩⟩⟩
theorem tz_C_6 : (∀ w ∈ u_ws RX6 TX6 7, w ∈ lw_tbl) ∧ (∀ k, k < 7 → parseFieldDescriptor (TX6 k).2.2.1 = some (tm_ty tm_G 6 k)) ∧ (∀ a, a < 7 → ∀ b, b < 7 → a ≠ b → (TX6 a).2.1 ≠ (TX6 b).2.1) ∧ Jvm.Cond.instantiable RX6 7 ∈ lw_tbl ∧ Jvm.Cond.initialized RX6 ∈ lw_tbl ∧ (tm_df tm_G 6).length = 7 ∧ (∀ j, j < 7 → defaultValue (tm_ty tm_G 6 j) = vp_V (tm_df tm_G 6) j) ∧ (∀ v ∈ tm_df tm_G 6, tm_wv 0 v ∧ ∀ ρ σ : Nat → Nat, tm_vm ρ σ v = v) ∧ (∀ k, k < 7 → (TX6 k).1 = RX6) ∧ tm_nm tm_G 6 = RX6 :=
  ⟨tz_w_6, tyX6_ok, nmX6, tm_in1 (i := 141) (by decide +kernel), tm_in1 (i := 6) (by decide +kernel), rfl, by decide +kernel, by
    show ∀ v ∈ ([.null, .null, .null, .int 0, .null, .int 0, .int 0] : List Value), _
    exact List.forall_mem_cons.mpr ⟨tm_dv2, List.forall_mem_cons.mpr ⟨tm_dv2, List.forall_mem_cons.mpr ⟨tm_dv2, List.forall_mem_cons.mpr ⟨tm_dv0, List.forall_mem_cons.mpr ⟨tm_dv2, List.forall_mem_cons.mpr ⟨tm_dv0, List.forall_mem_cons.mpr ⟨tm_dv0, fun _ h => absurd h List.not_mem_nil⟩⟩⟩⟩⟩⟩⟩, by decide +kernel, rfl⟩
set_option maxRecDepth 20000 in
theorem tz_w_7 : ∀ w ∈ u_ws RX7 TX7 5, w ∈ lw_tbl := by
  show ∀ w ∈ [u_lay RX7 TX7 0, u_lay RX7 TX7 1, u_lay RX7 TX7 2, u_lay RX7 TX7 3, u_lay RX7 TX7 4], w ∈ lw_tbl
  exact List.forall_mem_cons.mpr ⟨tm_in1 (i := 157) (by decide +kernel), List.forall_mem_cons.mpr ⟨tm_in1 (i := 159) (by decide +kernel), List.forall_mem_cons.mpr ⟨tm_in1 (i := 161) (by decide +kernel), List.forall_mem_cons.mpr ⟨tm_in1 (i := 163) (by decide +kernel), List.forall_mem_cons.mpr ⟨tm_in1 (i := 165) (by decide +kernel), fun _ h => absurd h List.not_mem_nil⟩⟩⟩⟩⟩
theorem tz_C_7 : (∀ w ∈ u_ws RX7 TX7 5, w ∈ lw_tbl) ∧ (∀ k, k < 5 → parseFieldDescriptor (TX7 k).2.2.1 = some (tm_ty tm_G 7 k)) ∧ (∀ a, a < 5 → ∀ b, b < 5 → a ≠ b → (TX7 a).2.1 ≠ (TX7 b).2.1) ∧ Jvm.Cond.instantiable RX7 5 ∈ lw_tbl ∧ Jvm.Cond.initialized RX7 ∈ lw_tbl ∧ (tm_df tm_G 7).length = 5 ∧ (∀ j, j < 5 → defaultValue (tm_ty tm_G 7 j) = vp_V (tm_df tm_G 7) j) ∧ (∀ v ∈ tm_df tm_G 7, tm_wv 0 v ∧ ∀ ρ σ : Nat → Nat, tm_vm ρ σ v = v) ∧ (∀ k, k < 5 → (TX7 k).1 = RX7) ∧ tm_nm tm_G 7 = RX7 :=
  ⟨tz_w_7, tyX7_ok, nmX7, tm_in1 (i := 147) (by decide +kernel), tm_in1 (i := 7) (by decide +kernel), rfl, by decide +kernel, by
    show ∀ v ∈ ([.null, .int 0, .int 0, .int 0, .int 0] : List Value), _
    exact List.forall_mem_cons.mpr ⟨tm_dv2, List.forall_mem_cons.mpr ⟨tm_dv0, List.forall_mem_cons.mpr ⟨tm_dv0, List.forall_mem_cons.mpr ⟨tm_dv0, List.forall_mem_cons.mpr ⟨tm_dv0, fun _ h => absurd h List.not_mem_nil⟩⟩⟩⟩⟩, by decide +kernel, rfl⟩
set_option maxRecDepth 20000 in
theorem tz_w_8 : ∀ w ∈ u_ws RX8 TX8 3, w ∈ lw_tbl := by
  show ∀ w ∈ [u_lay RX8 TX8 0, u_lay RX8 TX8 1, u_lay RX8 TX8 2], w ∈ lw_tbl
  exact List.forall_mem_cons.mpr ⟨tm_in1 (i := 283) (by decide +kernel), List.forall_mem_cons.mpr ⟨tm_in1 (i := 285) (by decide +kernel), List.forall_mem_cons.mpr ⟨tm_in1 (i := 287) (by decide +kernel), fun _ h => absurd h List.not_mem_nil⟩⟩⟩
theorem tz_C_8 : (∀ w ∈ u_ws RX8 TX8 3, w ∈ lw_tbl) ∧ (∀ k, k < 3 → parseFieldDescriptor (TX8 k).2.2.1 = some (tm_ty tm_G 8 k)) ∧ (∀ a, a < 3 → ∀ b, b < 3 → a ≠ b → (TX8 a).2.1 ≠ (TX8 b).2.1) ∧ Jvm.Cond.instantiable RX8 3 ∈ lw_tbl ∧ Jvm.Cond.initialized RX8 ∈ lw_tbl ∧ (tm_df tm_G 8).length = 3 ∧ (∀ j, j < 3 → defaultValue (tm_ty tm_G 8 j) = vp_V (tm_df tm_G 8) j) ∧ (∀ v ∈ tm_df tm_G 8, tm_wv 0 v ∧ ∀ ρ σ : Nat → Nat, tm_vm ρ σ v = v) ∧ (∀ k, k < 3 → (TX8 k).1 = RX8) ∧ tm_nm tm_G 8 = RX8 :=
  ⟨tz_w_8, tyX8_ok, nmX8, tm_in1 (i := 273) (by decide +kernel), tm_in1 (i := 10) (by decide +kernel), rfl, by decide +kernel, by
    show ∀ v ∈ ([.null, .null, .null] : List Value), _
    exact List.forall_mem_cons.mpr ⟨tm_dv2, List.forall_mem_cons.mpr ⟨tm_dv2, List.forall_mem_cons.mpr ⟨tm_dv2, fun _ h => absurd h List.not_mem_nil⟩⟩⟩, by decide +kernel, rfl⟩
set_option maxRecDepth 20000 in
theorem tz_w_9 : ∀ w ∈ u_ws RX9 TX9 12, w ∈ lw_tbl := by
  show ∀ w ∈ [u_lay RX9 TX9 0, u_lay RX9 TX9 1, u_lay RX9 TX9 2, u_lay RX9 TX9 3, u_lay RX9 TX9 4, u_lay RX9 TX9 5, u_lay RX9 TX9 6, u_lay RX9 TX9 7, u_lay RX9 TX9 8, u_lay RX9 TX9 9, u_lay RX9 TX9 10, u_lay RX9 TX9 11], w ∈ lw_tbl
  exact List.forall_mem_cons.mpr ⟨tm_in1 (i := 302) (by decide +kernel), List.forall_mem_cons.mpr ⟨tm_in1 (i := 304) (by decide +kernel), List.forall_mem_cons.mpr ⟨tm_in1 (i := 306) (by decide +kernel), List.forall_mem_cons.mpr ⟨tm_in1 (i := 308) (by decide +kernel), List.forall_mem_cons.mpr ⟨tm_in1 (i := 310) (by decide +kernel), List.forall_mem_cons.mpr ⟨tm_in1 (i := 312) (by decide +kernel), List.forall_mem_cons.mpr ⟨tm_in1 (i := 314) (by decide +kernel), List.forall_mem_cons.mpr ⟨tm_in1 (i := 316) (by decide +kernel), List.forall_mem_cons.mpr ⟨tm_in1 (i := 318) (by decide +kernel), List.forall_mem_cons.mpr ⟨tm_in1 (i := 320) (by decide +kernel), List.forall_mem_cons.mpr ⟨tm_in1 (i := 322) (by decide +kernel), List.forall_mem_cons.mpr ⟨tm_in1 (i := 324) (by decide +kernel), fun _ h => absurd h List.not_mem_nil⟩⟩⟩⟩⟩⟩⟩⟩⟩⟩⟩⟩
theorem tz_C_9 : (∀ w ∈ u_ws RX9 TX9 12, w ∈ lw_tbl) ∧ (∀ k, k < 12 → parseFieldDescriptor (TX9 k).2.2.1 = some (tm_ty tm_G 9 k)) ∧ (∀ a, a < 12 → ∀ b, b < 12 → a ≠ b → (TX9 a).2.1 ≠ (TX9 b).2.1) ∧ Jvm.Cond.instantiable RX9 12 ∈ lw_tbl ∧ Jvm.Cond.initialized RX9 ∈ lw_tbl ∧ (tm_df tm_G 9).length = 12 ∧ (∀ j, j < 12 → defaultValue (tm_ty tm_G 9 j) = vp_V (tm_df tm_G 9) j) ∧ (∀ v ∈ tm_df tm_G 9, tm_wv 0 v ∧ ∀ ρ σ : Nat → Nat, tm_vm ρ σ v = v) ∧ (∀ k, k < 12 → (TX9 k).1 = RX9) ∧ tm_nm tm_G 9 = RX9 :=
  ⟨tz_w_9, tyX9_ok, nmX9, tm_in1 (i := 26) (by decide +kernel), tm_in1 (i := 1) (by decide +kernel), rfl, by decide +kernel, by
    show ∀ v ∈ ([.null, .null, .null, .null, .null, .null, .null, .null, .int 0, .int 0, .int 0, .int 0] : List Value), _
    exact List.forall_mem_cons.mpr ⟨tm_dv2, List.forall_mem_cons.mpr ⟨tm_dv2, List.forall_mem_cons.mpr ⟨tm_dv2, List.forall_mem_cons.mpr ⟨tm_dv2, List.forall_mem_cons.mpr ⟨tm_dv2, List.forall_mem_cons.mpr ⟨tm_dv2, List.forall_mem_cons.mpr ⟨tm_dv2, List.forall_mem_cons.mpr ⟨tm_dv2, List.forall_mem_cons.mpr ⟨tm_dv0, List.forall_mem_cons.mpr ⟨tm_dv0, List.forall_mem_cons.mpr ⟨tm_dv0, List.forall_mem_cons.mpr ⟨tm_dv0, fun _ h => absurd h List.not_mem_nil⟩⟩⟩⟩⟩⟩⟩⟩⟩⟩⟩⟩, by decide +kernel, rfl⟩
set_option maxRecDepth 20000 in
theorem tz_w_10 : ∀ w ∈ u_ws RX10 TX10 26, w ∈ lw_tbl := by
  show ∀ w ∈ [u_lay RX10 TX10 0, u_lay RX10 TX10 1, u_lay RX10 TX10 2, u_lay RX10 TX10 3, u_lay RX10 TX10 4, u_lay RX10 TX10 5, u_lay RX10 TX10 6, u_lay RX10 TX10 7, u_lay RX10 TX10 8, u_lay RX10 TX10 9, u_lay RX10 TX10 10, u_lay RX10 TX10 11, u_lay RX10 TX10 12, u_lay RX10 TX10 13, u_lay RX10 TX10 14, u_lay RX10 TX10 15, u_lay RX10 TX10 16, u_lay RX10 TX10 17, u_lay RX10 TX10 18, u_lay RX10 TX10 19, u_lay RX10 TX10 20, u_lay RX10 TX10 21, u_lay RX10 TX10 22, u_lay RX10 TX10 23, u_lay RX10 TX10 24, u_lay RX10 TX10 25], w ∈ lw_tbl
  exact List.forall_mem_cons.mpr ⟨tm_in1 (i := 1389) (by decide +kernel), List.forall_mem_cons.mpr ⟨tm_in1 (i := 1391) (by decide +kernel), List.forall_mem_cons.mpr ⟨tm_in1 (i := 1393) (by decide +kernel), List.forall_mem_cons.mpr ⟨tm_in1 (i := 1395) (by decide +kernel), List.forall_mem_cons.mpr ⟨tm_in1 (i := 1397) (by decide +kernel), List.forall_mem_cons.mpr ⟨tm_in1 (i := 1399) (by decide +kernel), List.forall_mem_cons.mpr ⟨tm_in1 (i := 1401) (by decide +kernel), List.forall_mem_cons.mpr ⟨tm_in1 (i := 1403) (by decide +kernel), List.forall_mem_cons.mpr ⟨tm_in1 (i := 1405) (by decide +kernel), List.forall_mem_cons.mpr ⟨tm_in1 (i := 1407) (by decide +kernel), List.forall_mem_cons.mpr ⟨tm_in1 (i := 1409) (by decide +kernel), List.forall_mem_cons.mpr ⟨tm_in1 (i := 1411) (by decide +kernel), List.forall_mem_cons.mpr ⟨tm_in1 (i := 1413) (by decide +kernel), List.forall_mem_cons.mpr ⟨tm_in1 (i := 1415) (by decide +kernel), List.forall_mem_cons.mpr ⟨tm_in1 (i := 1417) (by decide +kernel), List.forall_mem_cons.mpr ⟨tm_in1 (i := 1419) (by decide +kernel), List.forall_mem_cons.mpr ⟨tm_in1 (i := 1421) (by decide +kernel), List.forall_mem_cons.mpr ⟨tm_in1 (i := 1423) (by decide +kernel), List.forall_mem_cons.mpr ⟨tm_in1 (i := 1425) (by decide +kernel), List.forall_mem_cons.mpr ⟨tm_in1 (i := 1427) (by decide +kernel), List.forall_mem_cons.mpr ⟨tm_in1 (i := 1429) (by decide +kernel), List.forall_mem_cons.mpr ⟨tm_in1 (i := 1431) (by decide +kernel), List.forall_mem_cons.mpr ⟨tm_in1 (i := 1433) (by decide +kernel), List.forall_mem_cons.mpr ⟨tm_in1 (i := 1435) (by decide +kernel), List.forall_mem_cons.mpr ⟨tm_in1 (i := 1437) (by decide +kernel), List.forall_mem_cons.mpr ⟨tm_in1 (i := 1439) (by decide +kernel), fun _ h => absurd h List.not_mem_nil⟩⟩⟩⟩⟩⟩⟩⟩⟩⟩⟩⟩⟩⟩⟩⟩⟩⟩⟩⟩⟩⟩⟩⟩⟩⟩
theorem tz_C_10 : (∀ w ∈ u_ws RX10 TX10 26, w ∈ lw_tbl) ∧ (∀ k, k < 26 → parseFieldDescriptor (TX10 k).2.2.1 = some (tm_ty tm_G 10 k)) ∧ (∀ a, a < 26 → ∀ b, b < 26 → a ≠ b → (TX10 a).2.1 ≠ (TX10 b).2.1) ∧ Jvm.Cond.instantiable RX10 26 ∈ lw_tbl ∧ Jvm.Cond.initialized RX10 ∈ lw_tbl ∧ (tm_df tm_G 10).length = 26 ∧ (∀ j, j < 26 → defaultValue (tm_ty tm_G 10 j) = vp_V (tm_df tm_G 10) j) ∧ (∀ v ∈ tm_df tm_G 10, tm_wv 0 v ∧ ∀ ρ σ : Nat → Nat, tm_vm ρ σ v = v) ∧ (∀ k, k < 26 → (TX10 k).1 = RX10) ∧ tm_nm tm_G 10 = RX10 :=
  ⟨tz_w_10, tyX10_ok, nmX10, tm_in1 (i := 1342) (by decide +kernel), tm_in1 (i := 18) (by decide +kernel), rfl, by decide +kernel, by
    show ∀ v ∈ ([.int 0, .int 0, .int 0, .int 0, .int 0, .int 0, .int 0, .int 0, .int 0, .int 0, .int 0, .int 0, .int 0, .null, .null, .null, .null, .null, .null, .null, .null, .null, .null, .null, .null, .null] : List Value), _
    exact List.forall_mem_cons.mpr ⟨tm_dv0, List.forall_mem_cons.mpr ⟨tm_dv0, List.forall_mem_cons.mpr ⟨tm_dv0, List.forall_mem_cons.mpr ⟨tm_dv0, List.forall_mem_cons.mpr ⟨tm_dv0, List.forall_mem_cons.mpr ⟨tm_dv0, List.forall_mem_cons.mpr ⟨tm_dv0, List.forall_mem_cons.mpr ⟨tm_dv0, List.forall_mem_cons.mpr ⟨tm_dv0, List.forall_mem_cons.mpr ⟨tm_dv0, List.forall_mem_cons.mpr ⟨tm_dv0, List.forall_mem_cons.mpr ⟨tm_dv0, List.forall_mem_cons.mpr ⟨tm_dv0, List.forall_mem_cons.mpr ⟨tm_dv2, List.forall_mem_cons.mpr ⟨tm_dv2, List.forall_mem_cons.mpr ⟨tm_dv2, List.forall_mem_cons.mpr ⟨tm_dv2, List.forall_mem_cons.mpr ⟨tm_dv2, List.forall_mem_cons.mpr ⟨tm_dv2, List.forall_mem_cons.mpr ⟨tm_dv2, List.forall_mem_cons.mpr ⟨tm_dv2, List.forall_mem_cons.mpr ⟨tm_dv2, List.forall_mem_cons.mpr ⟨tm_dv2, List.forall_mem_cons.mpr ⟨tm_dv2, List.forall_mem_cons.mpr ⟨tm_dv2, List.forall_mem_cons.mpr ⟨tm_dv2, fun _ h => absurd h List.not_mem_nil⟩⟩⟩⟩⟩⟩⟩⟩⟩⟩⟩⟩⟩⟩⟩⟩⟩⟩⟩⟩⟩⟩⟩⟩⟩⟩, by decide +kernel, rfl⟩
set_option maxRecDepth 20000 in
theorem tz_w_11 : ∀ w ∈ u_ws RX11 TX11 35, w ∈ lw_tbl := by
  show ∀ w ∈ [u_lay RX11 TX11 0, u_lay RX11 TX11 1, u_lay RX11 TX11 2, u_lay RX11 TX11 3, u_lay RX11 TX11 4, u_lay RX11 TX11 5, u_lay RX11 TX11 6, u_lay RX11 TX11 7, u_lay RX11 TX11 8, u_lay RX11 TX11 9, u_lay RX11 TX11 10, u_lay RX11 TX11 11, u_lay RX11 TX11 12, u_lay RX11 TX11 13, u_lay RX11 TX11 14, u_lay RX11 TX11 15, u_lay RX11 TX11 16, u_lay RX11 TX11 17, u_lay RX11 TX11 18, u_lay RX11 TX11 19, u_lay RX11 TX11 20, u_lay RX11 TX11 21, u_lay RX11 TX11 22, u_lay RX11 TX11 23, u_lay RX11 TX11 24, u_lay RX11 TX11 25, u_lay RX11 TX11 26, u_lay RX11 TX11 27, u_lay RX11 TX11 28, u_lay RX11 TX11 29, u_lay RX11 TX11 30, u_lay RX11 TX11 31, u_lay RX11 TX11 32, u_lay RX11 TX11 33, u_lay RX11 TX11 34], w ∈ lw_tbl
  exact List.forall_mem_cons.mpr ⟨tm_in1 (i := 1254) (by decide +kernel), List.forall_mem_cons.mpr ⟨tm_in1 (i := 1256) (by decide +kernel), List.forall_mem_cons.mpr ⟨tm_in1 (i := 1258) (by decide +kernel), List.forall_mem_cons.mpr ⟨tm_in1 (i := 1260) (by decide +kernel), List.forall_mem_cons.mpr ⟨tm_in1 (i := 1262) (by decide +kernel), List.forall_mem_cons.mpr ⟨tm_in1 (i := 1264) (by decide +kernel), List.forall_mem_cons.mpr ⟨tm_in1 (i := 1266) (by decide +kernel), List.forall_mem_cons.mpr ⟨tm_in1 (i := 1268) (by decide +kernel), List.forall_mem_cons.mpr ⟨tm_in1 (i := 1270) (by decide +kernel), List.forall_mem_cons.mpr ⟨tm_in1 (i := 1272) (by decide +kernel), List.forall_mem_cons.mpr ⟨tm_in1 (i := 1274) (by decide +kernel), List.forall_mem_cons.mpr ⟨tm_in1 (i := 1276) (by decide +kernel), List.forall_mem_cons.mpr ⟨tm_in1 (i := 1278) (by decide +kernel), List.forall_mem_cons.mpr ⟨tm_in1 (i := 1280) (by decide +kernel), List.forall_mem_cons.mpr ⟨tm_in1 (i := 1282) (by decide +kernel), List.forall_mem_cons.mpr ⟨tm_in1 (i := 1284) (by decide +kernel), List.forall_mem_cons.mpr ⟨tm_in1 (i := 1286) (by decide +kernel), List.forall_mem_cons.mpr ⟨tm_in1 (i := 1288) (by decide +kernel), List.forall_mem_cons.mpr ⟨tm_in1 (i := 1290) (by decide +kernel), List.forall_mem_cons.mpr ⟨tm_in1 (i := 1292) (by decide +kernel), List.forall_mem_cons.mpr ⟨tm_in1 (i := 1294) (by decide +kernel), List.forall_mem_cons.mpr ⟨tm_in1 (i := 1296) (by decide +kernel), List.forall_mem_cons.mpr ⟨tm_in1 (i := 1298) (by decide +kernel), List.forall_mem_cons.mpr ⟨tm_in1 (i := 1300) (by decide +kernel), List.forall_mem_cons.mpr ⟨tm_in1 (i := 1302) (by decide +kernel), List.forall_mem_cons.mpr ⟨tm_in1 (i := 1304) (by decide +kernel), List.forall_mem_cons.mpr ⟨tm_in1 (i := 1306) (by decide +kernel), List.forall_mem_cons.mpr ⟨tm_in1 (i := 1308) (by decide +kernel), List.forall_mem_cons.mpr ⟨tm_in1 (i := 1310) (by decide +kernel), List.forall_mem_cons.mpr ⟨tm_in1 (i := 1312) (by decide +kernel), List.forall_mem_cons.mpr ⟨tm_in1 (i := 1314) (by decide +kernel), List.forall_mem_cons.mpr ⟨tm_in1 (i := 1316) (by decide +kernel), List.forall_mem_cons.mpr ⟨tm_in1 (i := 1318) (by decide +kernel), List.forall_mem_cons.mpr ⟨tm_in1 (i := 1320) (by decide +kernel), List.forall_mem_cons.mpr ⟨tm_in1 (i := 1322) (by decide +kernel), fun _ h => absurd h List.not_mem_nil⟩⟩⟩⟩⟩⟩⟩⟩⟩⟩⟩⟩⟩⟩⟩⟩⟩⟩⟩⟩⟩⟩⟩⟩⟩⟩⟩⟩⟩⟩⟩⟩⟩⟩⟩
theorem tz_C_11 : (∀ w ∈ u_ws RX11 TX11 35, w ∈ lw_tbl) ∧ (∀ k, k < 35 → parseFieldDescriptor (TX11 k).2.2.1 = some (tm_ty tm_G 11 k)) ∧ (∀ a, a < 35 → ∀ b, b < 35 → a ≠ b → (TX11 a).2.1 ≠ (TX11 b).2.1) ∧ Jvm.Cond.instantiable RX11 35 ∈ lw_tbl ∧ Jvm.Cond.initialized RX11 ∈ lw_tbl ∧ (tm_df tm_G 11).length = 35 ∧ (∀ j, j < 35 → defaultValue (tm_ty tm_G 11 j) = vp_V (tm_df tm_G 11) j) ∧ (∀ v ∈ tm_df tm_G 11, tm_wv 0 v ∧ ∀ ρ σ : Nat → Nat, tm_vm ρ σ v = v) ∧ (∀ k, k < 35 → (TX11 k).1 = RX11) ∧ tm_nm tm_G 11 = RX11 :=
  ⟨tz_w_11, tyX11_ok, nmX11, tm_in1 (i := 1214) (by decide +kernel), tm_in1 (i := 11) (by decide +kernel), rfl, by decide +kernel, by
    show ∀ v ∈ ([.int 0, .int 0, .int 0, .null, .null, .null, .int 0, .int 0, .int 0, .int 0, .int 0, .int 0, .int 0, .int 0, .int 0, .long 0, .null, .null, .null, .null, .null, .int 0, .int 0, .int 0, .int 0, .int 0, .int 0, .null, .null, .null, .null, .null, .null, .int 0, .null] : List Value), _
    exact List.forall_mem_cons.mpr ⟨tm_dv0, List.forall_mem_cons.mpr ⟨tm_dv0, List.forall_mem_cons.mpr ⟨tm_dv0, List.forall_mem_cons.mpr ⟨tm_dv2, List.forall_mem_cons.mpr ⟨tm_dv2, List.forall_mem_cons.mpr ⟨tm_dv2, List.forall_mem_cons.mpr ⟨tm_dv0, List.forall_mem_cons.mpr ⟨tm_dv0, List.forall_mem_cons.mpr ⟨tm_dv0, List.forall_mem_cons.mpr ⟨tm_dv0, List.forall_mem_cons.mpr ⟨tm_dv0, List.forall_mem_cons.mpr ⟨tm_dv0, List.forall_mem_cons.mpr ⟨tm_dv0, List.forall_mem_cons.mpr ⟨tm_dv0, List.forall_mem_cons.mpr ⟨tm_dv0, List.forall_mem_cons.mpr ⟨tm_dv1, List.forall_mem_cons.mpr ⟨tm_dv2, List.forall_mem_cons.mpr ⟨tm_dv2, List.forall_mem_cons.mpr ⟨tm_dv2, List.forall_mem_cons.mpr ⟨tm_dv2, List.forall_mem_cons.mpr ⟨tm_dv2, List.forall_mem_cons.mpr ⟨tm_dv0, List.forall_mem_cons.mpr ⟨tm_dv0, List.forall_mem_cons.mpr ⟨tm_dv0, List.forall_mem_cons.mpr ⟨tm_dv0, List.forall_mem_cons.mpr ⟨tm_dv0, List.forall_mem_cons.mpr ⟨tm_dv0, List.forall_mem_cons.mpr ⟨tm_dv2, List.forall_mem_cons.mpr ⟨tm_dv2, List.forall_mem_cons.mpr ⟨tm_dv2, List.forall_mem_cons.mpr ⟨tm_dv2, List.forall_mem_cons.mpr ⟨tm_dv2, List.forall_mem_cons.mpr ⟨tm_dv2, List.forall_mem_cons.mpr ⟨tm_dv0, List.forall_mem_cons.mpr ⟨tm_dv2, fun _ h => absurd h List.not_mem_nil⟩⟩⟩⟩⟩⟩⟩⟩⟩⟩⟩⟩⟩⟩⟩⟩⟩⟩⟩⟩⟩⟩⟩⟩⟩⟩⟩⟩⟩⟩⟩⟩⟩⟩⟩, by decide +kernel, rfl⟩
theorem tm_pool_cases {P : tm_PL → Nat → Prop} (h0 : ∀ oc, P ([], [], [], [], [], [], []) oc) (h0_ : P (tf_0, tq_0, tc_0, ts_0, tb_0, tk_0, tl_0) 0) (h1_ : P (tf_1, tq_1, tc_1, ts_1, tb_1, tk_1, tl_1) 1) (h2_ : P (tf_2, tq_2, tc_2, ts_2, tb_2, tk_2, tl_2) 2) (h3_ : P (tf_3, tq_3, tc_3, ts_3, tb_3, tk_3, tl_3) 3) (h4_ : P (tf_4, tq_4, tc_4, ts_4, tb_4, tk_4, tl_4) 4) (h5_ : P (tf_5, tq_5, tc_5, ts_5, tb_5, tk_5, tl_5) 5) (h6_ : P (tf_6, tq_6, tc_6, ts_6, tb_6, tk_6, tl_6) 6) (h7_ : P (tf_7, tq_7, tc_7, ts_7, tb_7, tk_7, tl_7) 7) (h8_ : P (tf_8, tq_8, tc_8, ts_8, tb_8, tk_8, tl_8) 8) (h9_ : P (tf_9, tq_9, tc_9, ts_9, tb_9, tk_9, tl_9) 9) (h10_ : P (tf_10, tq_10, tc_10, ts_10, tb_10, tk_10, tl_10) 10) (h11_ : P (tf_11, tq_11, tc_11, ts_11, tb_11, tk_11, tl_11) 11) (h21_ : P (tf_21, tq_21, tc_21, ts_21, tb_21, tk_21, tl_21) 21) (h22_ : P (tf_22, tq_22, tc_22, ts_22, tb_22, tk_22, tl_22) 22) : ∀ oc, P (tm_pools oc) oc := by
  intro oc
  unfold tm_pools
  split
  · exact h0_
  · exact h1_
  · exact h2_
  · exact h3_
  · exact h4_
  · exact h5_
  · exact h6_
  · exact h7_
  · exact h8_
  · exact h9_
  · exact h10_
  · exact h11_
  · exact h21_
  · exact h22_
  · exact h0 _
theorem tz_F : ∀ oc, ∀ q ∈ (tm_pools oc).1, tm_okf oc q := tm_pool_cases (P := fun L oc => ∀ q ∈ L.1, tm_okf oc q) (fun _ q h => absurd h List.not_mem_nil) tz_f_0 tz_f_1 tz_f_2 tz_f_3 tz_f_4 tz_f_5 tz_f_6 tz_f_7 tz_f_8 tz_f_9 tz_f_10 tz_f_11 tz_f_21 tz_f_22
theorem tz_Q : ∀ oc, ∀ q ∈ (tm_pools oc).2.1, tm_okq oc q := tm_pool_cases (P := fun L oc => ∀ q ∈ L.2.1, tm_okq oc q) (fun _ q h => absurd h List.not_mem_nil) tz_q_0 tz_q_1 tz_q_2 tz_q_3 tz_q_4 tz_q_5 tz_q_6 tz_q_7 tz_q_8 tz_q_9 tz_q_10 tz_q_11 tz_q_21 tz_q_22
theorem tz_Cl : ∀ oc, ∀ q ∈ (tm_pools oc).2.2.1, ∃ C T N, vwCl[q.2]? = some (C, T, N) ∧ Jvm.Cond.classLink (tm_names oc) q.1 C ∈ lw_tbl := tm_pool_cases (P := fun L oc => ∀ q ∈ L.2.2.1, ∃ C T N, vwCl[q.2]? = some (C, T, N) ∧ Jvm.Cond.classLink (tm_names oc) q.1 C ∈ lw_tbl) (fun _ q h => absurd h List.not_mem_nil) tz_c_0 tz_c_1 tz_c_2 tz_c_3 tz_c_4 tz_c_5 tz_c_6 tz_c_7 tz_c_8 tz_c_9 tz_c_10 tz_c_11 tz_c_21 tz_c_22
theorem tz_B : ∀ oc, ∀ q ∈ (tm_pools oc).2.2.2.2.1, tm_okb oc q := tm_pool_cases (P := fun L oc => ∀ q ∈ L.2.2.2.2.1, tm_okb oc q) (fun _ q h => absurd h List.not_mem_nil) tz_b_0 tz_b_1 tz_b_2 tz_b_3 tz_b_4 tz_b_5 tz_b_6 tz_b_7 tz_b_8 tz_b_9 tz_b_10 tz_b_11 tz_b_21 tz_b_22
theorem tz_K : ∀ oc, ∀ q ∈ (tm_pools oc).2.2.2.2.2.1, Jvm.Cond.constant (tm_names oc) q.1 q.2 ∈ lw_tbl := tm_pool_cases (P := fun L oc => ∀ q ∈ L.2.2.2.2.2.1, Jvm.Cond.constant (tm_names oc) q.1 q.2 ∈ lw_tbl) (fun _ q h => absurd h List.not_mem_nil) tz_k_0 tz_k_1 tz_k_2 tz_k_3 tz_k_4 tz_k_5 tz_k_6 tz_k_7 tz_k_8 tz_k_9 tz_k_10 tz_k_11 tz_k_21 tz_k_22
theorem tz_L : ∀ oc, ∀ q ∈ (tm_pools oc).2.2.2.2.2.2, Jvm.Cond.constantLong (tm_names oc) q.1 q.2 ∈ lw_tbl := tm_pool_cases (P := fun L oc => ∀ q ∈ L.2.2.2.2.2.2, Jvm.Cond.constantLong (tm_names oc) q.1 q.2 ∈ lw_tbl) (fun _ q h => absurd h List.not_mem_nil) tz_l_0 tz_l_1 tz_l_2 tz_l_3 tz_l_4 tz_l_5 tz_l_6 tz_l_7 tz_l_8 tz_l_9 tz_l_10 tz_l_11 tz_l_21 tz_l_22
set_option maxRecDepth 20000 in
theorem tz_T : ∀ i, i < tm_nS → (tm_tx tm_G i).length < 2 ^ 31 ∧ ∀ b ∈ tm_tx tm_G i, ((b &&& 255).toUInt32 % 65536).toInt32 = b ∧ narrow .char (.int b) = .int b := by decide +kernel
theorem tz_T2 : ∀ i, tm_nS ≤ i → tm_tx tm_G i = [] := by
  intro i h
  show tm_text i = []
  unfold tm_text
  split <;> first | rfl | (exact absurd h (by decide))
theorem tm_okG : tm_OkG tm_G := by
  refine ⟨⟨fun oc k ci j h => tz_F oc _ (tm_look h), ?_, fun oc k ci h => tz_Cl oc _ (tm_look h)⟩, fun oc k M h => tz_Q oc _ (tm_look h), fun oc k h => (tz_B oc _ (tm_look h)).1 rfl, fun oc k h => (tz_B oc _ (tm_look h)).2.1 rfl, fun oc k h => (tz_B oc _ (tm_look h)).2.2.1 rfl, fun oc k h => (tz_B oc _ (tm_look h)).2.2.2.1 rfl, fun oc k => ⟨fun h => (tz_B oc _ (tm_look h)).2.2.2.2.1 rfl, fun h => (tz_B oc _ (tm_look h)).2.2.2.2.2.1 rfl, fun h => (tz_B oc _ (tm_look h)).2.2.2.2.2.2 rfl⟩, fun oc k x h => tz_K oc _ (tm_look h), fun oc k x h => tz_L oc _ (tm_look h), tz_T, tz_T2⟩
  intro ci C T N h
  match ci, h with
  | 0, h => cases h; exact tz_C_0
  | 1, h => cases h; exact tz_C_1
  | 2, h => cases h; exact tz_C_2
  | 3, h => cases h; exact tz_C_3
  | 4, h => cases h; exact tz_C_4
  | 5, h => cases h; exact tz_C_5
  | 6, h => cases h; exact tz_C_6
  | 7, h => cases h; exact tz_C_7
  | 8, h => cases h; exact tz_C_8
  | 9, h => cases h; exact tz_C_9
  | 10, h => cases h; exact tz_C_10
  | 11, h => cases h; exact tz_C_11
  | k + 12, h => simp [vwCl] at h
