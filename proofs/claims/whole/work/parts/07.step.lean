def zOwns : List String := [RX0, RX1, RX2, RX3, RX4, RX5, RX6, RX7, RX8, RX9, RX10, RX11, RX12, RL, RJ6, RJ7]
def zWc : List (List Jvm.Cond) := [zW0, zW1, zW2, zW3, zW4, zW5, zW6, zW7, zW8, zW9, zW10, zW11, zW12, zW13, zW14, zW15, zW16, zW17, zW18, zW19, zW20, zW21, zW22, zW23, zW24, zW25, zW26, zW27, zW28, zW29, zW30, zW31, zW32, zW33, zW34, zW35, zW36, zW37, zW38, zW39, zW40, zW41, zW42, zW43, zW44, zW45, zW46, zW47, zW48, zW49, zW50, zW51, zW52, zW53, zW54, zW55, zW56, zW57, zW58, zW59, zW60, zW61, zW62, zW63, zW64, zW65, zW66, zW67, zW68, zW69, zW70, zW71, zW72]
abbrev zMT : Type := MethodName × ByteArray × Nat × Option FieldType × Nat × Nat × Nat × zCd
def zMts_0 : List zMT := [
  (yX0_leftAt, cX0_leftAt, 2, (some .int), 1, 0, 0, zcX0_leftAt),
  (yX0_restAt, cX0_restAt, 2, (some .int), 1, 0, 0, zcX0_restAt),
  (yX0_comesTo, cX0_comesTo, 2, (some .boolean), 1, 0, 0, zcX0_comesTo),
  (yX0_drive, cX0_drive, 10, none, 3, 0, 0, zcX0_drive),
  (yX0_leave, cX0_leave, 4, none, 3, 0, 0, zcX0_leave),
  (yX1_copyFrom, cX1_copyFrom, 2, none, 1, 1, 1, zcX1_copyFrom),
  (yX1_get, cX1_get, 4, (some .int), 2, 1, 1, zcX1_get),
  (yX1_set, cX1_set, 4, none, 3, 1, 1, zcX1_set),
  (yX1_addStep, cX1_addStep, 4, (some .int), 1, 1, 1, zcX1_addStep),
  (yX1_stepAt, cX1_stepAt, 2, (some .int), 1, 1, 1, zcX1_stepAt),
  (yX1_placeOf, cX1_placeOf, 3, (some .int), 1, 1, 1, zcX1_placeOf),
  (yX1_changePlaces, cX1_changePlaces, 4, none, 2, 1, 1, zcX1_changePlaces),
  (yX1_weekday, cX1_weekday, 1, (some .int), 0, 1, 1, zcX1_weekday),
  (yX1_isNoted, cX1_isNoted, 2, (some .boolean), 1, 1, 1, zcX1_isNoted),
  (yX1_alike, cX1_alike, 4, (some .boolean), 3, 1, 1, zcX1_alike),
  (yX1_sum, cX1_sum, 4, (some .int), 1, 1, 1, zcX1_sum),
  (yX1_bottles, cX1_bottles, 1, (some .int), 0, 1, 1, zcX1_bottles),
  (yX1_drySteps, cX1_drySteps, 3, (some .int), 0, 1, 1, zcX1_drySteps),
  (yX1_stepsWith, cX1_stepsWith, 5, (some .int), 2, 1, 1, zcX1_stepsWith),
  (yX1_stepOfMost, cX1_stepOfMost, 4, (some .int), 1, 1, 1, zcX1_stepOfMost)]
def zMts_1 : List zMT := [
  (yX1_addBottles, cX1_addBottles, 4, none, 3, 1, 1, zcX1_addBottles),
  (yX1_take, cX1_take, 3, none, 2, 1, 1, zcX1_take),
  (yX1_receive, cX1_receive, 5, none, 2, 1, 1, zcX1_receive),
  (yX1_drink, cX1_drink, 2, none, 1, 1, 1, zcX1_drink),
  (yX1_turn, cX1_turn, 3, none, 2, 1, 1, zcX1_turn),
  (yX1_draw, cX1_draw, 1, (some .int), 0, 1, 1, zcX1_draw),
  (yX2_valueCode, cX2_valueCode, 1, (some .int), 1, 2, 99, zcX2_valueCode),
  (yX2_begin, cX2_begin, 1, none, 0, 2, 2, zcX2_begin),
  (yX2_beginLine, cX2_beginLine, 3, none, 2, 2, 2, zcX2_beginLine),
  (yX2_endLine, cX2_endLine, 1, none, 0, 2, 2, zcX2_endLine),
  (yX2_put, cX2_put, 2, none, 1, 2, 2, zcX2_put),
  (yX2_copyFrom, cX2_copyFrom, 2, none, 1, 2, 2, zcX2_copyFrom),
  (yX2_weigh, cX2_weigh, 6, (some .int), 3, 2, 2, zcX2_weigh),
  (yX2_applies, cX2_applies, 8, (some .boolean), 4, 2, 2, zcX2_applies),
  (yX2_joined, cX2_joined, 3, (some .int), 3, 2, 99, zcX2_joined),
  (yX2_push, cX2_push, 2, none, 1, 2, 2, zcX2_push),
  (yX2_pop, cX2_pop, 1, (some .int), 0, 2, 2, zcX2_pop),
  (yX3_add, cX3_add, 6, none, 4, 3, 3, zcX3_add),
  (yX3_cell, cX3_cell, 4, (some .int), 2, 3, 3, zcX3_cell),
  (yX3_rowsOf, cX3_rowsOf, 4, (some .int), 1, 3, 3, zcX3_rowsOf)]
def zMts_2 : List zMT := [
  (yX3_latestDayOf, cX3_latestDayOf, 3, (some .int), 1, 3, 3, zcX3_latestDayOf),
  (yX3_copyFrom, cX3_copyFrom, 2, none, 1, 3, 3, zcX3_copyFrom),
  (yX4_best, cX4_best, 2, (some .int), 1, 4, 4, zcX4_best),
  (yX4_number, cX4_number, 2, (some .int), 1, 4, 4, zcX4_number),
  (yX4_farTogether, cX4_farTogether, 2, (some .int), 1, 4, 4, zcX4_farTogether),
  (yX4_put, cX4_put, 7, none, 1, 4, 4, zcX4_put),
  (yX4_withPair, cX4_withPair, 7, (some .int), 4, 4, 4, zcX4_withPair),
  (yX4_partnerOf, cX4_partnerOf, 7, (some .int), 2, 4, 4, zcX4_partnerOf),
  (yX4_firstPartner, cX4_firstPartner, 6, (some .int), 3, 4, 4, zcX4_firstPartner),
  (yX5_isCorner, cX5_isCorner, 1, (some .boolean), 1, 5, 99, zcX5_isCorner),
  (yX5_roadBetween, cX5_roadBetween, 3, (some .int), 2, 5, 5, zcX5_roadBetween),
  (yX5_setRoad, cX5_setRoad, 4, none, 3, 5, 5, zcX5_setRoad),
  (yX5_between, cX5_between, 3, (some .int), 2, 5, 5, zcX5_between),
  (yX5_copyFrom, cX5_copyFrom, 2, none, 1, 5, 5, zcX5_copyFrom),
  (yX5_roads, cX5_roads, 3, (some .int), 0, 5, 5, zcX5_roads),
  (yX5_measure, cX5_measure, 3, none, 0, 5, 5, zcX5_measure),
  (yX5_shorten, cX5_shorten, 6, none, 2, 5, 5, zcX5_shorten),
  (yX5_reach, cX5_reach, 11, (some .int), 3, 5, 5, zcX5_reach),
  (yX5_lowest, cX5_lowest, 2, (some .int), 1, 5, 99, zcX5_lowest),
  (yX6_copyFrom, cX6_copyFrom, 2, none, 1, 6, 6, zcX6_copyFrom)]
def zMts_3 : List zMT := [
  (yX6_farFromDairy, cX6_farFromDairy, 2, (some .int), 1, 6, 6, zcX6_farFromDairy),
  (yX6_wayWith, cX6_wayWith, 8, (some .int), 2, 6, 6, zcX6_wayWith),
  (yX6_drive, cX6_drive, 1, none, 0, 6, 6, zcX6_drive),
  (yX6_deliver, cX6_deliver, 2, (some .int), 0, 6, 6, zcX6_deliver),
  (yX6_writeLog, cX6_writeLog, 3, none, 0, 6, 6, zcX6_writeLog),
  (yX6_birdsAndFrost, cX6_birdsAndFrost, 2, none, 0, 6, 6, zcX6_birdsAndFrost),
  (yX6_drinkAndSour, cX6_drinkAndSour, 2, none, 0, 6, 6, zcX6_drinkAndSour),
  (yX6_quietMornings, cX6_quietMornings, 3, none, 1, 6, 6, zcX6_quietMornings),
  (yX6_wildMornings, cX6_wildMornings, 3, none, 1, 6, 6, zcX6_wildMornings),
  (yX7_hasRoom, cX7_hasRoom, 1, (some .boolean), 0, 7, 7, zcX7_hasRoom),
  (yX7_add, cX7_add, 3, none, 1, 7, 7, zcX7_add),
  (yX7_keepFirst, cX7_keepFirst, 2, (some .boolean), 1, 7, 7, zcX7_keepFirst),
  (yX7_useUp, cX7_useUp, 1, none, 0, 7, 7, zcX7_useUp),
  (yX7_byteAt, cX7_byteAt, 2, (some .int), 1, 7, 7, zcX7_byteAt),
  (yX7_sortOf, cX7_sortOf, 1, (some .int), 1, 7, 99, zcX7_sortOf),
  (yX7_startText, cX7_startText, 1, none, 0, 7, 7, zcX7_startText),
  (yX7_goOn, cX7_goOn, 2, none, 0, 7, 7, zcX7_goOn),
  (yX7_atEnd, cX7_atEnd, 1, (some .boolean), 0, 7, 7, zcX7_atEnd),
  (yX7_fail, cX7_fail, 1, none, 0, 7, 7, zcX7_fail),
  (yX7_nextIs, cX7_nextIs, 4, (some .boolean), 1, 7, 7, zcX7_nextIs)]
def zMts_4 : List zMT := [
  (yX7_nextIsDigit, cX7_nextIsDigit, 1, (some .boolean), 0, 7, 7, zcX7_nextIsDigit),
  (yX7_word, cX7_word, 3, (some .boolean), 1, 7, 7, zcX7_word),
  (yX7_needWord, cX7_needWord, 2, none, 1, 7, 7, zcX7_needWord),
  (yX7_number, cX7_number, 7, (some .int), 3, 7, 7, zcX7_number),
  (yX8_readSuburb, cX8_readSuburb, 4, none, 2, 8, 99, zcX8_readSuburb),
  (yX8_readPlainLine, cX8_readPlainLine, 3, none, 2, 8, 99, zcX8_readPlainLine),
  (yX8_readStep, cX8_readStep, 3, none, 2, 8, 99, zcX8_readStep),
  (yX8_readRoad, cX8_readRoad, 4, none, 2, 8, 99, zcX8_readRoad),
  (yX8_readLaw, cX8_readLaw, 6, none, 2, 8, 99, zcX8_readLaw),
  (yX8_readAny, cX8_readAny, 4, none, 3, 8, 99, zcX8_readAny),
  (yX8_readAll, cX8_readAll, 4, none, 3, 8, 99, zcX8_readAll),
  (yX8_readAtom, cX8_readAtom, 5, none, 3, 8, 99, zcX8_readAtom),
  (yX8_readSum, cX8_readSum, 3, none, 2, 8, 99, zcX8_readSum),
  (yX8_readPart, cX8_readPart, 2, none, 2, 8, 99, zcX8_readPart),
  (yX9_forget, cX9_forget, 1, none, 0, 9, 8, zcX9_forget),
  (yX9_restOf, cX9_restOf, 4, (some .int), 2, 9, 8, zcX9_restOf),
  (yX9_wayOf, cX9_wayOf, 2, (some .int), 1, 9, 8, zcX9_wayOf),
  (yX9_cornerOf, cX9_cornerOf, 2, (some .int), 2, 9, 99, zcX9_cornerOf),
  (yX9_measure, cX9_measure, 6, none, 1, 9, 8, zcX9_measure),
  (yX9_leastFrom, cX9_leastFrom, 7, (some .int), 3, 9, 8, zcX9_leastFrom)]
def zMts_5 : List zMT := [
  (yX9_wayBy, cX9_wayBy, 6, (some .int), 4, 9, 8, zcX9_wayBy),
  (yX9_stepOfFirst, cX9_stepOfFirst, 6, (some .int), 2, 9, 8, zcX9_stepOfFirst),
  (yX9_firstStep, cX9_firstStep, 7, (some .int), 3, 9, 8, zcX9_firstStep),
  (yX10_hear, cX10_hear, 7, (some .boolean), 2, 10, 9, zcX10_hear),
  (yX10_look, cX10_look, 4, none, 1, 10, 9, zcX10_look),
  (yX10_countGiven, cX10_countGiven, 3, none, 1, 10, 9, zcX10_countGiven),
  (yX10_bestStep, cX10_bestStep, 6, (some .int), 1, 10, 9, zcX10_bestStep),
  (yX11_feed, cX11_feed, 6, (some .int), 5, 11, 10, zcX11_feed),
  (yX11_end, cX11_end, 2, (some .boolean), 1, 11, 10, zcX11_end),
  (yX11_suburb, cX11_suburb, 1, (some .int), 0, 11, 10, zcX11_suburb),
  (yX11_law, cX11_law, 1, (some .int), 0, 11, 10, zcX11_law),
  (yX11_fault, cX11_fault, 1, (some .int), 0, 11, 10, zcX11_fault),
  (yX11_step, cX11_step, 3, (some .int), 2, 11, 10, zcX11_step),
  (yX11_far, cX11_far, 3, (some .int), 2, 11, 10, zcX11_far),
  (yX11_road, cX11_road, 4, (some .int), 2, 11, 10, zcX11_road),
  (yX11_round, cX11_round, 2, (some .int), 1, 11, 10, zcX11_round),
  (yX11_mornings, cX11_mornings, 4, (some .int), 1, 11, 10, zcX11_mornings),
  (yX11_pay, cX11_pay, 4, (some .int), 2, 11, 10, zcX11_pay),
  (yX11_note, cX11_note, 3, (some .int), 2, 11, 10, zcX11_note),
  (yX11_kind, cX11_kind, 3, (some .int), 2, 11, 10, zcX11_kind)]
def zMts_6 : List zMT := [
  (yX11_change, cX11_change, 3, (some .int), 2, 11, 10, zcX11_change),
  (yX11_charge, cX11_charge, 3, (some .int), 1, 11, 10, zcX11_charge),
  (yX11_crates, cX11_crates, 3, (some .int), 1, 11, 10, zcX11_crates),
  (yX11_lend, cX11_lend, 6, (some .int), 2, 11, 10, zcX11_lend),
  (yX11_leaves, cX11_leaves, 1, (some .int), 0, 11, 10, zcX11_leaves),
  (yX11_passed, cX11_passed, 1, (some .int), 0, 11, 10, zcX11_passed),
  (yX11_home, cX11_home, 1, (some .int), 0, 11, 10, zcX11_home),
  (yX11_way, cX11_way, 1, (some .int), 0, 11, 10, zcX11_way),
  (yX11_shortest, cX11_shortest, 2, (some .int), 1, 11, 10, zcX11_shortest),
  (yX11_most, cX11_most, 4, (some .int), 0, 11, 10, zcX11_most),
  (yX11_least, cX11_least, 2, (some .int), 0, 11, 10, zcX11_least),
  (yX11_dairy, cX11_dairy, 5, (some .int), 0, 11, 10, zcX11_dairy),
  (yX11_bridges, cX11_bridges, 6, (some .int), 0, 11, 10, zcX11_bridges),
  (yX11_cut, cX11_cut, 2, (some .int), 1, 11, 10, zcX11_cut),
  (yX11_dries, cX11_dries, 4, (some .int), 1, 11, 10, zcX11_dries),
  (yX11_owes, cX11_owes, 3, (some .int), 1, 11, 10, zcX11_owes),
  (yX11_pays, cX11_pays, 5, (some .int), 2, 11, 10, zcX11_pays),
  (yX11_holds, cX11_holds, 2, (some .int), 1, 11, 10, zcX11_holds),
  (yX11_ahead, cX11_ahead, 4, (some .int), 3, 11, 10, zcX11_ahead),
  (yX11_trial, cX11_trial, 3, (some .int), 2, 11, 10, zcX11_trial)]
def zMts_7 : List zMT := [
  (yX11_span, cX11_span, 6, (some .int), 2, 11, 10, zcX11_span),
  (yX11_seen, cX11_seen, 2, (some .int), 1, 11, 10, zcX11_seen),
  (yX11_ask, cX11_ask, 1, (some .int), 0, 11, 10, zcX11_ask),
  (yX11_neighbours, cX11_neighbours, 2, (some .int), 1, 11, 10, zcX11_neighbours),
  (yX11_neighbour, cX11_neighbour, 2, (some .int), 1, 11, 10, zcX11_neighbour),
  (yX11_gutter, cX11_gutter, 5, (some .int), 2, 11, 10, zcX11_gutter),
  (yX11_rests, cX11_rests, 7, (some .int), 2, 11, 10, zcX11_rests),
  (yX11_cross, cX11_cross, 4, (some .int), 0, 11, 10, zcX11_cross),
  (yX11_swap, cX11_swap, 6, (some .int), 0, 11, 10, zcX11_swap),
  (yX11_foil, cX11_foil, 2, (some .int), 1, 11, 10, zcX11_foil),
  (yX11_dogs, cX11_dogs, 1, (some .int), 0, 11, 10, zcX11_dogs),
  (yX11_noted, cX11_noted, 2, (some .int), 1, 11, 10, zcX11_noted),
  (yX11_thirsty, cX11_thirsty, 2, (some .int), 0, 11, 10, zcX11_thirsty),
  (yX11_rich, cX11_rich, 1, (some .int), 0, 11, 10, zcX11_rich),
  (yX11_odds, cX11_odds, 6, (some .int), 2, 11, 10, zcX11_odds),
  (yX11_twins, cX11_twins, 4, (some .int), 0, 11, 10, zcX11_twins),
  (yX11_led, cX11_led, 3, (some .int), 2, 11, 10, zcX11_led),
  (yX11_log, cX11_log, 3, (some .int), 2, 11, 10, zcX11_log),
  (yX11_seed, cX11_seed, 3, (some .int), 1, 11, 10, zcX11_seed),
  (yX11_undo, cX11_undo, 2, (some .boolean), 0, 11, 10, zcX11_undo)]
def zMts_8 : List zMT := [
  (yX11_image, cX11_image, 1, none, 0, 11, 10, zcX11_image),
  (yX11_back, cX11_back, 1, (some .boolean), 0, 11, 10, zcX11_back),
  (yX11_count, cX11_count, 2, (some .int), 1, 11, 10, zcX11_count),
  (yX11_needStep, cX11_needStep, 2, none, 1, 11, 10, zcX11_needStep),
  (yX11_needCorner, cX11_needCorner, 1, none, 1, 11, 99, zcX11_needCorner),
  (yX11_needKind, cX11_needKind, 1, none, 1, 11, 99, zcX11_needKind),
  (yX11_needWeekday, cX11_needWeekday, 1, none, 1, 11, 99, zcX11_needWeekday),
  (yX11_needTwo, cX11_needTwo, 2, none, 2, 11, 99, zcX11_needTwo),
  (yX11_needDays, cX11_needDays, 1, none, 1, 11, 99, zcX11_needDays),
  (yX11_orNone, cX11_orNone, 1, (some .int), 1, 11, 99, zcX11_orNone),
  (yX11_everyStep, cX11_everyStep, 1, (some .int), 0, 11, 10, zcX11_everyStep),
  (yX11_remember, cX11_remember, 1, none, 0, 11, 10, zcX11_remember),
  (yX11_tell, cX11_tell, 5, (some .int), 3, 11, 10, zcX11_tell),
  (yX11_shareOf, cX11_shareOf, 3, (some .int), 1, 11, 10, zcX11_shareOf),
  (yX11_outerOf, cX11_outerOf, 6, (some .int), 1, 11, 10, zcX11_outerOf),
  (yX11_farToAll, cX11_farToAll, 4, (some .int), 1, 11, 10, zcX11_farToAll),
  (yX11_reachedSteps, cX11_reachedSteps, 7, (some .int), 3, 11, 10, zcX11_reachedSteps),
  (yX11_mostOwed, cX11_mostOwed, 5, (some .int), 0, 11, 10, zcX11_mostOwed),
  (yX11_has, cX11_has, 8, (some .int), 4, 11, 10, zcX11_has),
  (yX12_thrown, cX12_thrown, 1, (some .int), 0, 12, 11, zcX12_thrown)]
def zMts_9 : List zMT := [
  (yX12_throwsIf, cX12_throwsIf, 3, (some .boolean), 2, 12, 11, zcX12_throwsIf),
  (yX12_in, cX12_in, 3, (some .boolean), 3, 12, 99, zcX12_in),
  (yX12_has, cX12_has, 2, (some .boolean), 2, 12, 99, zcX12_has),
  (yX12_image, cX12_image, 2, none, 0, 12, 11, zcX12_image),
  (yX12_back, cX12_back, 2, (some .boolean), 0, 12, 11, zcX12_back),
  (yX12_remembers, cX12_remembers, 2, none, 0, 12, 11, zcX12_remembers),
  (yX12_undo, cX12_undo, 2, (some .boolean), 0, 12, 11, zcX12_undo),
  (yX12_steps, cX12_steps, 1, (some .int), 0, 12, 11, zcX12_steps),
  (yX12_allSteps, cX12_allSteps, 1, (some .int), 0, 12, 11, zcX12_allSteps),
  (yX12_at, cX12_at, 2, (some .int), 2, 12, 99, zcX12_at),
  (yX12_of, cX12_of, 3, (some .int), 2, 12, 11, zcX12_of),
  (yX12_inRound, cX12_inRound, 2, (some .int), 1, 12, 11, zcX12_inRound),
  (yX12_placeOf, cX12_placeOf, 3, (some .int), 1, 12, 11, zcX12_placeOf),
  (yX12_roadAt, cX12_roadAt, 2, (some .int), 2, 12, 99, zcX12_roadAt),
  (yX12_noStep, cX12_noStep, 2, (some .boolean), 1, 12, 11, zcX12_noStep),
  (yX12_noCorner, cX12_noCorner, 1, (some .boolean), 1, 12, 99, zcX12_noCorner),
  (yX12_drawn, cX12_drawn, 2, (some .int), 1, 12, 11, zcX12_drawn),
  (yX12_farOf, cX12_farOf, 3, (some .int), 2, 12, 11, zcX12_farOf),
  (yX12_laysFars, cX12_laysFars, 4, none, 0, 12, 11, zcX12_laysFars),
  (yX12_farBetween, cX12_farBetween, 3, (some .int), 2, 12, 11, zcX12_farBetween)]
def zMts_10 : List zMT := [
  (yX12_farHome, cX12_farHome, 2, (some .int), 1, 12, 11, zcX12_farHome),
  (yX12_feed, cX12_feed, 7, (some .int), 5, 12, 11, zcX12_feed),
  (yX12_end, cX12_end, 2, (some .boolean), 1, 12, 11, zcX12_end),
  (yX12_isAt, cX12_isAt, 3, (some .boolean), 2, 12, 11, zcX12_isAt),
  (yX12_blanks, cX12_blanks, 1, none, 0, 12, 11, zcX12_blanks),
  (yX12_letters, cX12_letters, 1, none, 0, 12, 11, zcX12_letters),
  (yX12_isWord, cX12_isWord, 4, (some .boolean), 1, 12, 11, zcX12_isWord),
  (yX12_passes, cX12_passes, 2, (some .boolean), 1, 12, 11, zcX12_passes),
  (yX12_sign, cX12_sign, 2, (some .boolean), 1, 12, 11, zcX12_sign),
  (yX12_number, cX12_number, 4, (some .int), 2, 12, 11, zcX12_number),
  (yX12_after, cX12_after, 4, (some .int), 3, 12, 11, zcX12_after),
  (yX12_told, cX12_told, 6, (some .int), 4, 12, 11, zcX12_told),
  (yX12_fault, cX12_fault, 1, (some .int), 0, 12, 11, zcX12_fault),
  (yX12_uses, cX12_uses, 1, none, 0, 12, 11, zcX12_uses),
  (yX12_readNumber, cX12_readNumber, 5, (some .boolean), 3, 12, 11, zcX12_readNumber),
  (yX12_readStep, cX12_readStep, 8, (some .boolean), 0, 12, 11, zcX12_readStep),
  (yX12_readRoad, cX12_readRoad, 4, (some .boolean), 0, 12, 11, zcX12_readRoad),
  (yX12_readSuburbLine, cX12_readSuburbLine, 1, (some .boolean), 0, 12, 11, zcX12_readSuburbLine),
  (yX12_emits, cX12_emits, 3, none, 2, 12, 11, zcX12_emits),
  (yX12_wordOfPart, cX12_wordOfPart, 1, (some .int), 0, 12, 11, zcX12_wordOfPart)]
def zMts_11 : List zMT := [
  (yX12_readPart, cX12_readPart, 3, (some .boolean), 0, 12, 11, zcX12_readPart),
  (yX12_readSum, cX12_readSum, 1, (some .boolean), 0, 12, 11, zcX12_readSum),
  (yX12_readTag, cX12_readTag, 2, (some .boolean), 0, 12, 11, zcX12_readTag),
  (yX12_readAtom, cX12_readAtom, 2, (some .boolean), 0, 12, 11, zcX12_readAtom),
  (yX12_readAllOf, cX12_readAllOf, 1, (some .boolean), 0, 12, 11, zcX12_readAllOf),
  (yX12_readCond, cX12_readCond, 1, (some .boolean), 0, 12, 11, zcX12_readCond),
  (yX12_readLawLine, cX12_readLawLine, 3, (some .boolean), 1, 12, 11, zcX12_readLawLine),
  (yX12_readLine, cX12_readLine, 3, (some .boolean), 2, 12, 11, zcX12_readLine),
  (yX12_readAll, cX12_readAll, 3, (some .int), 1, 12, 11, zcX12_readAll),
  (yX12_suburb, cX12_suburb, 3, (some .int), 0, 12, 11, zcX12_suburb),
  (yX12_law, cX12_law, 3, (some .int), 0, 12, 11, zcX12_law),
  (yX12_weekday, cX12_weekday, 1, (some .int), 0, 12, 11, zcX12_weekday),
  (yX12_isNoted, cX12_isNoted, 2, (some .boolean), 1, 12, 11, zcX12_isNoted),
  (yX12_factOf, cX12_factOf, 4, (some .int), 3, 12, 11, zcX12_factOf),
  (yX12_holdsLine, cX12_holdsLine, 10, (some .boolean), 2, 12, 11, zcX12_holdsLine),
  (yX12_byLaw, cX12_byLaw, 5, (some .int), 2, 12, 11, zcX12_byLaw),
  (yX12_sumOf, cX12_sumOf, 4, (some .int), 1, 12, 11, zcX12_sumOf),
  (yX12_shareOf, cX12_shareOf, 3, (some .int), 1, 12, 11, zcX12_shareOf),
  (yX12_outerOf, cX12_outerOf, 4, (some .int), 1, 12, 11, zcX12_outerOf),
  (yX12_step, cX12_step, 3, (some .int), 2, 12, 11, zcX12_step)]
def zMts_12 : List zMT := [
  (yX12_orNone, cX12_orNone, 1, (some .int), 1, 12, 99, zcX12_orNone),
  (yX12_far, cX12_far, 3, (some .int), 2, 12, 11, zcX12_far),
  (yX12_road, cX12_road, 3, (some .int), 2, 12, 11, zcX12_road),
  (yX12_noPlace, cX12_noPlace, 2, (some .boolean), 1, 12, 11, zcX12_noPlace),
  (yX12_round, cX12_round, 2, (some .int), 1, 12, 11, zcX12_round),
  (yX12_tells, cX12_tells, 5, none, 3, 12, 11, zcX12_tells),
  (yX12_adds, cX12_adds, 5, none, 4, 12, 11, zcX12_adds),
  (yX12_getsOne, cX12_getsOne, 3, none, 1, 12, 11, zcX12_getsOne),
  (yX12_setsOut, cX12_setsOut, 2, none, 1, 12, 11, zcX12_setsOut),
  (yX12_goesTo, cX12_goesTo, 4, (some .int), 1, 12, 11, zcX12_goesTo),
  (yX12_rides, cX12_rides, 3, none, 1, 12, 11, zcX12_rides),
  (yX12_delivers, cX12_delivers, 6, (some .int), 0, 12, 11, zcX12_delivers),
  (yX12_isPecked, cX12_isPecked, 2, none, 1, 12, 11, zcX12_isPecked),
  (yX12_drinks, cX12_drinks, 4, none, 1, 12, 11, zcX12_drinks),
  (yX12_turnsOld, cX12_turnsOld, 2, none, 1, 12, 11, zcX12_turnsOld),
  (yX12_oneMorning, cX12_oneMorning, 4, (some .int), 1, 12, 11, zcX12_oneMorning),
  (yX12_goesOn, cX12_goesOn, 5, (some .int), 2, 12, 11, zcX12_goesOn),
  (yX12_keepsAll, cX12_keepsAll, 2, none, 0, 12, 11, zcX12_keepsAll),
  (yX12_bringsBack, cX12_bringsBack, 2, none, 0, 12, 11, zcX12_bringsBack),
  (yX12_mornings, cX12_mornings, 2, (some .int), 1, 12, 11, zcX12_mornings)]
def zMts_13 : List zMT := [
  (yX12_pay, cX12_pay, 3, (some .int), 2, 12, 11, zcX12_pay),
  (yX12_isChanged, cX12_isChanged, 5, (some .int), 3, 12, 11, zcX12_isChanged),
  (yX12_note, cX12_note, 3, (some .int), 2, 12, 11, zcX12_note),
  (yX12_kind, cX12_kind, 3, (some .int), 2, 12, 11, zcX12_kind),
  (yX12_changes, cX12_changes, 4, none, 2, 12, 11, zcX12_changes),
  (yX12_change, cX12_change, 3, (some .int), 2, 12, 11, zcX12_change),
  (yX12_charge, cX12_charge, 3, (some .int), 1, 12, 11, zcX12_charge),
  (yX12_crates, cX12_crates, 3, (some .int), 1, 12, 11, zcX12_crates),
  (yX12_lend, cX12_lend, 4, (some .int), 2, 12, 11, zcX12_lend),
  (yX12_leaves, cX12_leaves, 1, (some .int), 0, 12, 11, zcX12_leaves),
  (yX12_passed, cX12_passed, 1, (some .int), 0, 12, 11, zcX12_passed),
  (yX12_home, cX12_home, 1, (some .int), 0, 12, 11, zcX12_home),
  (yX12_wayNow, cX12_wayNow, 4, (some .int), 0, 12, 11, zcX12_wayNow),
  (yX12_way, cX12_way, 1, (some .int), 0, 12, 11, zcX12_way),
  (yX12_restAt, cX12_restAt, 2, (some .int), 2, 12, 99, zcX12_restAt),
  (yX12_farFrom, cX12_farFrom, 3, (some .int), 2, 12, 11, zcX12_farFrom),
  (yX12_restBy, cX12_restBy, 4, (some .int), 3, 12, 11, zcX12_restBy),
  (yX12_laysRest, cX12_laysRest, 5, none, 0, 12, 11, zcX12_laysRest),
  (yX12_shortest, cX12_shortest, 7, (some .int), 1, 12, 11, zcX12_shortest),
  (yX12_most, cX12_most, 3, (some .int), 0, 12, 11, zcX12_most)]
def zMts_14 : List zMT := [
  (yX12_least, cX12_least, 2, (some .int), 0, 12, 11, zcX12_least),
  (yX12_cross, cX12_cross, 4, (some .int), 0, 12, 11, zcX12_cross),
  (yX12_swap, cX12_swap, 6, (some .int), 0, 12, 11, zcX12_swap),
  (yX12_dairy, cX12_dairy, 6, (some .int), 0, 12, 11, zcX12_dairy),
  (yX12_reached, cX12_reached, 9, (some .int), 3, 12, 11, zcX12_reached),
  (yX12_stepsIn, cX12_stepsIn, 4, (some .int), 1, 12, 11, zcX12_stepsIn),
  (yX12_bridges, cX12_bridges, 5, (some .int), 0, 12, 11, zcX12_bridges),
  (yX12_cut, cX12_cut, 2, (some .int), 1, 12, 11, zcX12_cut),
  (yX12_noDays, cX12_noDays, 1, (some .boolean), 1, 12, 99, zcX12_noDays),
  (yX12_dryOnes, cX12_dryOnes, 3, (some .int), 0, 12, 11, zcX12_dryOnes),
  (yX12_dries, cX12_dries, 4, (some .int), 1, 12, 11, zcX12_dries),
  (yX12_owes, cX12_owes, 4, (some .int), 1, 12, 11, zcX12_owes),
  (yX12_pays, cX12_pays, 4, (some .int), 2, 12, 11, zcX12_pays),
  (yX12_bottlesNow, cX12_bottlesNow, 1, (some .int), 0, 12, 11, zcX12_bottlesNow),
  (yX12_holds, cX12_holds, 3, (some .int), 1, 12, 11, zcX12_holds),
  (yX12_ahead, cX12_ahead, 5, (some .int), 3, 12, 11, zcX12_ahead),
  (yX12_isSeen, cX12_isSeen, 3, (some .boolean), 0, 12, 11, zcX12_isSeen),
  (yX12_laysGiven, cX12_laysGiven, 2, none, 0, 12, 11, zcX12_laysGiven),
  (yX12_fits, cX12_fits, 4, (some .boolean), 1, 12, 11, zcX12_fits),
  (yX12_seen, cX12_seen, 5, (some .int), 1, 12, 11, zcX12_seen)]
def zMts_15 : List zMT := [
  (yX12_ask, cX12_ask, 7, (some .int), 0, 12, 11, zcX12_ask),
  (yX12_firstOf, cX12_firstOf, 1, (some .int), 1, 12, 99, zcX12_firstOf),
  (yX12_pairedBy, cX12_pairedBy, 5, (some .int), 2, 12, 11, zcX12_pairedBy),
  (yX12_laysPaired, cX12_laysPaired, 4, none, 0, 12, 11, zcX12_laysPaired),
  (yX12_partnerOf, cX12_partnerOf, 5, (some .int), 1, 12, 11, zcX12_partnerOf),
  (yX12_neighbours, cX12_neighbours, 3, (some .int), 1, 12, 11, zcX12_neighbours),
  (yX12_neighbour, cX12_neighbour, 2, (some .int), 1, 12, 11, zcX12_neighbour),
  (yX12_gutter, cX12_gutter, 6, (some .int), 2, 12, 11, zcX12_gutter),
  (yX12_hasBy, cX12_hasBy, 5, (some .int), 4, 12, 11, zcX12_hasBy),
  (yX12_rests, cX12_rests, 7, (some .int), 2, 12, 11, zcX12_rests),
  (yX12_thatHave, cX12_thatHave, 5, (some .int), 2, 12, 11, zcX12_thatHave),
  (yX12_foil, cX12_foil, 2, (some .int), 1, 12, 11, zcX12_foil),
  (yX12_dogs, cX12_dogs, 1, (some .int), 0, 12, 11, zcX12_dogs),
  (yX12_noted, cX12_noted, 2, (some .int), 1, 12, 11, zcX12_noted),
  (yX12_mostOf, cX12_mostOf, 6, (some .int), 2, 12, 11, zcX12_mostOf),
  (yX12_thirsty, cX12_thirsty, 1, (some .int), 0, 12, 11, zcX12_thirsty),
  (yX12_rich, cX12_rich, 1, (some .int), 0, 12, 11, zcX12_rich),
  (yX12_odds, cX12_odds, 6, (some .int), 2, 12, 11, zcX12_odds),
  (yX12_twins, cX12_twins, 4, (some .int), 0, 12, 11, zcX12_twins),
  (yX12_trial, cX12_trial, 4, (some .int), 2, 12, 11, zcX12_trial)]
def zMts_16 : List zMT := [
  (yX12_span, cX12_span, 6, (some .int), 2, 12, 11, zcX12_span),
  (yX12_ofLog, cX12_ofLog, 3, (some .int), 2, 12, 11, zcX12_ofLog),
  (yX12_led, cX12_led, 6, (some .int), 2, 12, 11, zcX12_led),
  (yX12_log, cX12_log, 3, (some .int), 2, 12, 11, zcX12_log),
  (yX12_seed, cX12_seed, 3, (some .int), 1, 12, 11, zcX12_seed),
  (yX12_count, cX12_count, 5, (some .int), 1, 12, 11, zcX12_count),
  (yJ6_numberOfTrailingZeros_0f7a4, cJ6_numberOfTrailingZeros_0f7a4, 2, (some .int), 1, 14, 99, zcJ6_numberOfTrailingZeros_0f7a4),
  (yJ6_bitCount_0f7a4, cJ6_bitCount_0f7a4, 1, (some .int), 1, 14, 99, zcJ6_bitCount_0f7a4),
  (yJ7_fill_53178, cJ7_fill_53178, 4, none, 2, 15, 99, zcJ7_fill_53178),
  (yL_suburb, cL_suburb, 3, (some .int), 2, 13, 99, zcL_suburb),
  (yL_law, cL_law, 3, (some .int), 2, 13, 99, zcL_law),
  (yL_step, cL_step, 5, (some .int), 4, 13, 99, zcL_step),
  (yL_far, cL_far, 5, (some .int), 4, 13, 99, zcL_far),
  (yL_road, cL_road, 5, (some .int), 4, 13, 99, zcL_road),
  (yL_round, cL_round, 4, (some .int), 3, 13, 99, zcL_round),
  (yL_mornings, cL_mornings, 4, (some .int), 3, 13, 99, zcL_mornings),
  (yL_pay, cL_pay, 5, (some .int), 4, 13, 99, zcL_pay),
  (yL_note, cL_note, 5, (some .int), 4, 13, 99, zcL_note),
  (yL_kind, cL_kind, 5, (some .int), 4, 13, 99, zcL_kind),
  (yL_change, cL_change, 5, (some .int), 4, 13, 99, zcL_change)]
def zMts_17 : List zMT := [
  (yL_charge, cL_charge, 4, (some .int), 3, 13, 99, zcL_charge),
  (yL_crates, cL_crates, 4, (some .int), 3, 13, 99, zcL_crates),
  (yL_lend, cL_lend, 5, (some .int), 4, 13, 99, zcL_lend),
  (yL_cut, cL_cut, 4, (some .int), 3, 13, 99, zcL_cut),
  (yL_owes, cL_owes, 4, (some .int), 3, 13, 99, zcL_owes),
  (yL_pays, cL_pays, 5, (some .int), 4, 13, 99, zcL_pays),
  (yL_holds, cL_holds, 4, (some .int), 3, 13, 99, zcL_holds),
  (yL_seen, cL_seen, 4, (some .int), 3, 13, 99, zcL_seen),
  (yL_ask, cL_ask, 3, (some .int), 2, 13, 99, zcL_ask),
  (yL_neighbour, cL_neighbour, 4, (some .int), 3, 13, 99, zcL_neighbour),
  (yL_gutter, cL_gutter, 5, (some .int), 4, 13, 99, zcL_gutter),
  (yL_rests, cL_rests, 5, (some .int), 4, 13, 99, zcL_rests),
  (yL_foil, cL_foil, 4, (some .int), 3, 13, 99, zcL_foil),
  (yL_noted, cL_noted, 4, (some .int), 3, 13, 99, zcL_noted),
  (yL_odds, cL_odds, 5, (some .int), 4, 13, 99, zcL_odds),
  (yL_ahead, cL_ahead, 6, (some .int), 5, 13, 99, zcL_ahead),
  (yL_trial, cL_trial, 5, (some .int), 4, 13, 99, zcL_trial),
  (yL_span, cL_span, 5, (some .int), 4, 13, 99, zcL_span),
  (yL_led, cL_led, 5, (some .int), 4, 13, 99, zcL_led),
  (yL_log, cL_log, 5, (some .int), 4, 13, 99, zcL_log)]
def zMts_18 : List zMT := [
  (yL_law_, cL_law_, 7, (some .boolean), 1, 13, 99, zcL_law_),
  (yX7_needEnd, cX7_needEnd, 2, none, 1, 7, 7, zcX7_needEnd),
  (yX8_readSort, cX8_readSort, 1, (some .int), 1, 8, 99, zcX8_readSort)]
def zMts : List zMT := zMts_0 ++ (zMts_1 ++ (zMts_2 ++ (zMts_3 ++ (zMts_4 ++ (zMts_5 ++ (zMts_6 ++ (zMts_7 ++ (zMts_8 ++ (zMts_9 ++ (zMts_10 ++ (zMts_11 ++ (zMts_12 ++ (zMts_13 ++ (zMts_14 ++ (zMts_15 ++ (zMts_16 ++ (zMts_17 ++ (zMts_18))))))))))))))))))
def zFlq : List (Nat × Nat × Nat × Nat × Nat) := [(0, 9, 0, 0, 103), (0, 15, 0, 1, 104), (0, 18, 0, 2, 812), (0, 28, 0, 3, 813), (0, 31, 0, 4, 814), (0, 34, 1, 3, 815), (0, 52, 1, 6, 816), (0, 68, 0, 5, 818), (1, 9, 1, 0, 66), (1, 15, 1, 1, 67), (1, 21, 1, 2, 71), (1, 25, 1, 5, 72), (1, 29, 1, 6, 73), (1, 32, 1, 7, 74), (1, 35, 1, 11, 75), (1, 48, 1, 3, 215), (1, 51, 1, 4, 216), (1, 54, 1, 8, 217), (1, 57, 1, 9, 218), (1, 60, 1, 10, 219), (10, 9, 9, 0, 116), (10, 15, 7, 1, 1355), (10, 21, 9, 1, 1356), (10, 24, 9, 2, 1357), (10, 40, 9, 3, 1364), (10, 43, 9, 4, 1365), (10, 46, 6, 3, 1366), (10, 52, 6, 0, 1367), (10, 56, 6, 1, 1368), (10, 66, 0, 3, 1369), (11, 10, 10, 0, 16), (11, 19, 10, 1, 20), (11, 23, 10, 2, 21), (11, 26, 10, 3, 22), (11, 31, 10, 5, 24), (11, 38, 10, 8, 28), (11, 45, 10, 9, 32), (11, 52, 10, 10, 36), (11, 56, 10, 11, 38), (11, 69, 7, 1, 156), (11, 93, 7, 2, 198), (11, 103, 6, 0, 199), (11, 107, 1, 4, 200), (11, 115, 6, 1, 201), (11, 127, 10, 7, 202), (11, 130, 6, 2, 532), (11, 146, 2, 6, 533), (11, 238, 1, 5, 1033), (11, 243, 1, 6, 1045), (11, 254, 6, 3, 1068), (11, 258, 0, 2, 1069), (11, 266, 0, 5, 1099), (11, 286, 1, 3, 605), (11, 298, 1, 7, 1299), (11, 316, 1, 11, 1652), (11, 328, 9, 4, 1349), (11, 331, 9, 3, 1350), (11, 376, 1, 2, 1664), (11, 391, 10, 6, 794), (11, 397, 10, 4, 1717), (11, 401, 1, 10, 1735), (11, 404, 1, 8, 1736), (11, 407, 1, 9, 1737), (11, 416, 3, 1, 1738), (12, 3, 11, 0, 170), (12, 13, 11, 1, 121), (12, 17, 11, 2, 122), (12, 20, 11, 3, 123), (12, 23, 11, 4, 124), (12, 26, 11, 5, 125), (12, 29, 11, 8, 126), (12, 32, 11, 9, 128), (12, 36, 11, 15, 129), (12, 39, 11, 16, 130), (12, 42, 11, 18, 131), (12, 45, 11, 24, 132), (12, 48, 11, 25, 133), (12, 51, 11, 26, 134), (12, 54, 11, 27, 135), (12, 60, 11, 6, 1722), (12, 64, 11, 7, 403), (12, 99, 11, 10, 171), (12, 102, 11, 11, 409), (12, 105, 11, 12, 410), (12, 112, 11, 13, 402), (12, 187, 11, 17, 408), (12, 214, 11, 14, 480), (12, 313, 11, 19, 918), (12, 315, 11, 20, 913), (12, 318, 11, 21, 919), (12, 321, 11, 22, 920), (12, 324, 11, 23, 921), (2, 9, 2, 0, 93), (2, 15, 2, 1, 94), (2, 18, 2, 2, 95), (2, 21, 2, 3, 96), (2, 24, 2, 4, 97), (2, 27, 2, 5, 98), (2, 30, 2, 6, 99), (2, 34, 2, 7, 236), (2, 43, 1, 8, 610), (2, 48, 1, 9, 611), (2, 55, 2, 8, 616), (3, 11, 3, 0, 79), (3, 15, 3, 2, 225), (3, 19, 3, 1, 224), (4, 11, 4, 0, 112), (4, 22, 6, 0, 1416), (4, 28, 1, 3, 1417), (4, 49, 6, 1, 1428), (5, 9, 5, 0, 84), (5, 15, 5, 1, 85), (6, 12, 6, 0, 50), (6, 21, 6, 1, 54), (6, 28, 6, 2, 58), (6, 35, 6, 3, 62), (6, 56, 1, 3, 801), (6, 64, 1, 5, 807), (6, 84, 0, 4, 802), (6, 87, 1, 2, 849), (6, 91, 1, 10, 850), (7, 9, 7, 0, 44), (7, 15, 7, 2, 45), (7, 19, 7, 1, 161), (7, 22, 7, 4, 242), (7, 28, 7, 3, 247), (8, 54, 6, 0, 266), (8, 65, 1, 3, 267), (8, 77, 6, 1, 268), (8, 87, 1, 5, 269), (8, 91, 1, 6, 270), (8, 95, 1, 7, 271), (8, 99, 1, 8, 272), (8, 103, 1, 9, 273), (8, 107, 1, 10, 274), (9, 11, 8, 0, 108), (9, 15, 8, 1, 397), (9, 23, 6, 0, 1128), (9, 34, 1, 3, 1129), (9, 46, 6, 1, 1134)]
def zFls : List (Nat × Nat × Nat × Nat) := zFlq.map fun x => (x.1, x.2.1, x.2.2.1, x.2.2.2.1)
def zMlq : List (Nat × Nat × Nat × Nat) := [(13, 7, 109, 190), (13, 17, 110, 528), (13, 20, 112, 593), (13, 28, 113, 731), (13, 31, 114, 755), (13, 34, 115, 770), (13, 38, 116, 786), (13, 41, 117, 959), (13, 44, 118, 971), (13, 47, 119, 993), (13, 50, 120, 1007), (13, 53, 121, 1029), (13, 56, 122, 1041), (13, 59, 123, 1054), (13, 64, 133, 1254), (13, 67, 135, 1295), (13, 70, 136, 1307), (13, 73, 137, 1325), (13, 76, 141, 1345), (13, 80, 142, 1395), (13, 83, 144, 1458), (13, 86, 145, 1481), (13, 89, 146, 1497), (13, 92, 149, 1532), (13, 95, 151, 1559), (13, 98, 154, 1594), (13, 101, 138, 1617), (13, 105, 139, 1628), (13, 109, 140, 1648), (13, 112, 156, 1660), (13, 115, 157, 1688), (13, 122, 107, 152), (13, 126, 201, 166), (13, 127, 108, 172), (13, 131, 202, 180), (13, 132, 329, 184), (13, 137, 229, 398), (13, 138, 179, 521), (13, 141, 330, 525), (13, 143, 230, 576), (13, 144, 111, 580), (13, 147, 212, 584), (13, 148, 331, 588), (13, 151, 239, 669), (13, 152, 332, 728), (13, 154, 241, 742), (13, 155, 333, 752), (13, 157, 242, 763), (13, 158, 334, 767), (13, 161, 244, 775), (13, 162, 335, 783), (13, 164, 259, 893), (13, 165, 336, 956), (13, 167, 260, 964), (13, 168, 337, 968), (13, 170, 262, 982), (13, 171, 338, 990), (13, 173, 263, 1000), (13, 174, 339, 1004), (13, 176, 265, 1018), (13, 177, 340, 1026), (13, 179, 266, 1034), (13, 180, 341, 1038), (13, 182, 267, 1046), (13, 183, 342, 1050), (13, 185, 268, 1060), (13, 186, 124, 1064), (13, 189, 269, 1071), (13, 190, 125, 1079), (13, 193, 270, 1087), (13, 194, 126, 1095), (13, 197, 271, 1100), (13, 198, 127, 1104), (13, 201, 273, 1112), (13, 202, 128, 1120), (13, 205, 278, 1161), (13, 206, 129, 1187), (13, 209, 279, 1198), (13, 210, 130, 1203), (13, 213, 280, 1207), (13, 214, 131, 1211), (13, 217, 283, 1219), (13, 218, 132, 1223), (13, 221, 286, 1239), (13, 222, 343, 1251), (13, 224, 287, 1258), (13, 225, 134, 1262), (13, 228, 290, 1272), (13, 229, 344, 1292), (13, 231, 291, 1300), (13, 232, 345, 1304), (13, 234, 292, 1315), (13, 235, 346, 1322), (13, 237, 294, 1334), (13, 238, 347, 1342), (13, 241, 299, 1376), (13, 242, 348, 1392), (13, 244, 300, 1404), (13, 245, 143, 1408), (13, 248, 305, 1440), (13, 249, 349, 1455), (13, 251, 306, 1470), (13, 252, 350, 1478), (13, 254, 307, 1490), (13, 255, 351, 1494), (13, 257, 309, 1505), (13, 258, 147, 1513), (13, 261, 281, 1517), (13, 262, 148, 1521), (13, 265, 282, 1525), (13, 266, 352, 1529), (13, 268, 311, 1540), (13, 269, 150, 1548), (13, 272, 312, 1552), (13, 273, 353, 1556), (13, 275, 313, 1563), (13, 276, 152, 1567), (13, 279, 315, 1575), (13, 280, 153, 1583), (13, 283, 316, 1587), (13, 284, 354, 1591), (13, 286, 317, 1598), (13, 287, 155, 1602), (13, 290, 318, 1610), (13, 291, 355, 1614), (13, 294, 295, 1621), (13, 295, 356, 1625), (13, 298, 319, 1641), (13, 299, 357, 1645), (13, 301, 320, 1653), (13, 302, 358, 1657), (13, 304, 322, 1677), (13, 305, 359, 1685), (13, 307, 323, 1693), (13, 308, 158, 1697), (13, 311, 324, 1701), (13, 312, 159, 1705), (13, 316, 186, 1709), (13, 317, 160, 1713), (13, 320, 183, 1718), (13, 321, 161, 1723), (13, 324, 184, 1727), (13, 325, 162, 1731), (13, 328, 325, 1743), (0, 22, 328, 819), (0, 39, 9, 820), (0, 43, 6, 821), (0, 47, 52, 822), (0, 55, 13, 823), (0, 64, 4, 824), (1, 44, 41, 220), (1, 63, 7, 352), (1, 67, 9, 665), (1, 71, 6, 633), (1, 75, 12, 634), (1, 79, 15, 1333), (1, 87, 20, 840), (1, 90, 21, 885), (10, 27, 73, 1358), (10, 31, 72, 1359), (10, 34, 328, 1370), (10, 60, 3, 1371), (10, 69, 105, 1372), (11, 61, 69, 157), (11, 65, 70, 162), (11, 73, 71, 176), (11, 77, 59, 203), (11, 81, 75, 238), (11, 84, 84, 255), (11, 90, 72, 377), (11, 119, 55, 381), (11, 124, 94, 393), (11, 134, 27, 534), (11, 139, 88, 538), (11, 143, 31, 575), (11, 149, 163, 599), (11, 157, 32, 606), (11, 161, 173, 642), (11, 165, 174, 651), (11, 168, 10, 661), (11, 171, 6, 650), (11, 175, 164, 735), (11, 178, 52, 738), (11, 181, 169, 739), (11, 184, 50, 759), (11, 187, 9, 774), (11, 192, 171, 790), (11, 195, 63, 797), (11, 199, 64, 845), (11, 202, 65, 861), (11, 205, 66, 876), (11, 215, 7, 963), (11, 219, 166, 975), (11, 222, 172, 978), (11, 226, 165, 997), (11, 229, 167, 1011), (11, 233, 11, 1014), (11, 251, 62, 1070), (11, 263, 170, 1083), (11, 269, 61, 1108), (11, 272, 98, 1124), (11, 274, 96, 1149), (11, 277, 101, 1153), (11, 281, 327, 1191), (11, 289, 175, 1215), (11, 292, 176, 1227), (11, 295, 67, 1266), (11, 301, 168, 1311), (11, 304, 0, 1314), (11, 307, 16, 1329), (11, 310, 68, 1632), (11, 313, 17, 1637), (11, 319, 103, 1351), (11, 325, 104, 1360), (11, 334, 106, 1399), (11, 337, 45, 1412), (11, 340, 44, 1431), (11, 343, 43, 1439), (11, 346, 47, 1462), (11, 351, 328, 1485), (11, 357, 177, 1486), (11, 360, 178, 1501), (11, 364, 18, 1536), (11, 367, 19, 1571), (11, 372, 14, 1606), (11, 380, 40, 1665), (11, 385, 39, 1673), (11, 388, 38, 1692), (11, 394, 5, 796), (11, 410, 54, 1739), (11, 413, 15, 646), (11, 432, 60, 655), (11, 435, 57, 1231), (12, 57, 198, 136), (12, 67, 187, 445), (12, 71, 189, 465), (12, 75, 191, 724), (12, 79, 181, 677), (12, 84, 193, 145), (12, 88, 197, 148), (12, 96, 190, 692), (12, 108, 203, 419), (12, 115, 204, 415), (12, 127, 205, 427), (12, 130, 206, 435), (12, 134, 209, 453), (12, 137, 207, 461), (12, 141, 210, 449), (12, 149, 211, 457), (12, 163, 215, 441), (12, 169, 216, 468), (12, 174, 214, 472), (12, 198, 219, 513), (12, 201, 218, 488), (12, 205, 220, 509), (12, 208, 208, 497), (12, 217, 225, 481), (12, 222, 223, 493), (12, 225, 222, 501), (12, 228, 221, 505), (12, 233, 224, 485), (12, 246, 217, 431), (12, 249, 226, 476), (12, 252, 213, 411), (12, 255, 227, 423), (12, 259, 228, 404), (12, 263, 180, 517), (12, 266, 231, 696), (12, 269, 232, 700), (12, 272, 233, 688), (12, 276, 234, 684), (12, 279, 236, 708), (12, 282, 200, 716), (12, 285, 194, 673), (12, 288, 235, 680), (12, 291, 237, 704), (12, 294, 238, 712), (12, 297, 192, 720), (12, 300, 195, 746), (12, 303, 240, 749), (12, 306, 243, 779), (12, 309, 246, 930), (12, 327, 248, 914), (12, 331, 249, 922), (12, 334, 247, 926), (12, 337, 245, 934), (12, 341, 196, 942), (12, 347, 251, 909), (12, 350, 252, 938), (12, 353, 253, 947), (12, 356, 254, 951), (12, 359, 255, 905), (12, 362, 185, 897), (12, 365, 256, 901), (12, 369, 261, 986), (12, 372, 264, 1022), (12, 375, 250, 1075), (12, 378, 188, 1091), (12, 381, 272, 1116), (12, 384, 199, 1180), (12, 387, 275, 1176), (12, 390, 274, 1184), (12, 393, 182, 1169), (12, 396, 276, 1172), (12, 399, 277, 1165), (12, 402, 327, 1202), (12, 407, 284, 1243), (12, 410, 285, 1247), (12, 413, 257, 1276), (12, 416, 289, 1280), (12, 419, 326, 1284), (12, 422, 258, 1288), (12, 425, 288, 1319), (12, 428, 293, 1338), (12, 431, 296, 1380), (12, 434, 297, 1384), (12, 437, 298, 1388), (12, 440, 301, 1452), (12, 443, 302, 1448), (12, 446, 303, 1444), (12, 449, 304, 1474), (12, 452, 308, 1509), (12, 456, 310, 1544), (12, 459, 314, 1579), (12, 462, 321, 1681), (2, 51, 33, 612), (2, 58, 35, 617), (2, 62, 6, 621), (2, 66, 12, 625), (2, 70, 13, 629), (2, 74, 36, 635), (2, 77, 34, 639), (3, 28, 38, 1669), (4, 15, 42, 1420), (4, 19, 43, 1435), (4, 34, 58, 1419), (4, 39, 46, 1424), (4, 53, 6, 1429), (4, 56, 52, 1430), (4, 59, 48, 1466), (5, 18, 328, 86), (5, 24, 49, 368), (5, 34, 56, 385), (5, 38, 52, 389), (5, 42, 58, 1235), (5, 46, 50, 1238), (6, 39, 5, 207), (6, 43, 53, 227), (6, 46, 31, 232), (6, 49, 6, 659), (6, 53, 52, 660), (6, 60, 9, 851), (6, 67, 3, 808), (6, 71, 62, 803), (6, 73, 2, 828), (6, 77, 0, 832), (6, 80, 22, 836), (6, 94, 1, 852), (6, 97, 37, 856), (6, 103, 25, 865), (6, 107, 32, 870), (6, 111, 21, 871), (6, 114, 20, 875), (6, 118, 23, 881), (6, 122, 24, 886), (6, 130, 63, 1270), (6, 133, 66, 1271), (6, 136, 65, 1636), (7, 25, 76, 243), (7, 31, 73, 248), (7, 35, 74, 252), (7, 38, 77, 376), (7, 42, 78, 336), (7, 54, 79, 335), (7, 58, 80, 344), (8, 9, 77, 259), (8, 15, 85, 263), (8, 23, 81, 357), (8, 27, 361, 372), (8, 31, 362, 541), (8, 35, 83, 340), (8, 39, 28, 544), (8, 47, 89, 548), (8, 51, 29, 571), (8, 62, 79, 275), (8, 71, 86, 328), (8, 81, 87, 361), (8, 109, 78, 371), (8, 112, 82, 331), (8, 118, 8, 348), (8, 124, 7, 356), (8, 138, 51, 364), (8, 149, 90, 551), (8, 154, 30, 553), (8, 158, 91, 558), (8, 169, 26, 561), (8, 174, 92, 564), (8, 182, 93, 567), (8, 187, 80, 570), (9, 19, 95, 1145), (9, 29, 6, 1139), (9, 38, 99, 1130), (9, 42, 97, 1136), (9, 50, 52, 1140), (9, 55, 100, 1141), (9, 64, 102, 1157)]
def zMls : List (Nat × Nat × Nat) := zMlq.map fun x => (x.1, x.2.1, x.2.2.1)
def zMinq : List (Nat × Nat × Nat) := [(0, 59, 817), (1, 82, 844), (11, 210, 795), (12, 91, 141), (3, 22, 860), (6, 125, 880), (9, 59, 1135)]
def zMin : List (Nat × Nat) := zMinq.map fun x => (x.1, x.2.1)
def zMaxq : List (Nat × Nat × Nat) := [(1, 94, 890), (10, 73, 1403), (12, 344, 955), (4, 43, 1418)]
def zMax : List (Nat × Nat) := zMaxq.map fun x => (x.1, x.2.1)
def zCpsq : List (Nat × Nat × Nat) := [(1, 38, 211), (2, 37, 237), (3, 31, 226), (5, 28, 231)]
def zCps : List (Nat × Nat) := zCpsq.map fun x => (x.1, x.2.1)
def zKsq : List (Nat × Nat × Int32 × Nat) := [(14, 264, 65536, 1287), (14, 265, 1431655765, 1195), (14, 266, 858993459, 1196), (14, 267, 252645135, 1197), (1, 97, 1103515245, 869), (12, 83, 1103515245, 946), (12, 87, 1000000, 140)]
def zKs : List (Nat × Nat × Int32) := zKsq.map fun x => (x.1, x.2.1, x.2.2.1)
def zSs : List (Nat × Nat × Nat) := [(8, 21, 2000), (8, 60, 2001), (8, 75, 2002), (8, 85, 2003), (8, 89, 2004), (8, 93, 2005), (8, 97, 2006), (8, 101, 2007), (8, 105, 2008), (8, 116, 2009), (8, 122, 2010), (8, 128, 2011), (8, 130, 2012), (8, 132, 2013), (8, 134, 2014), (8, 136, 2015), (8, 45, 2019), (8, 152, 2020), (8, 161, 2021), (8, 163, 2022), (8, 165, 2023), (8, 167, 2024), (8, 172, 2025), (8, 178, 2026), (8, 180, 2027), (8, 185, 2028), (8, 190, 2029), (8, 192, 2030), (8, 194, 2031), (8, 196, 2032), (12, 140, 2009), (12, 145, 2010), (12, 147, 2011), (12, 153, 2012), (12, 155, 2013), (12, 157, 2014), (12, 159, 2015), (12, 161, 2001), (12, 167, 2002), (12, 172, 2003), (12, 177, 2004), (12, 179, 2005), (12, 181, 2006), (12, 183, 2007), (12, 185, 2008), (12, 190, 2029), (12, 192, 2030), (12, 194, 2031), (12, 196, 2032), (12, 212, 2025), (12, 220, 2022), (12, 231, 2021), (12, 236, 2020), (12, 238, 2016), (12, 240, 2017), (12, 242, 2018), (12, 244, 2019), (8, 143, 2016), (8, 145, 2017), (8, 147, 2018)]
def zTxt : List (List Int32) := [[59], [115, 116, 101, 112], [114, 111, 97, 100], [99, 104, 97, 114, 103, 101], [99, 114, 97, 116, 101, 115], [112, 114, 105, 99, 101], [98, 105, 114, 100, 115], [102, 114, 111, 115, 116], [100, 97, 121], [97, 116], [99, 114, 101, 100, 105, 116], [107, 105, 110, 100], [102, 114, 101, 115, 104], [110, 111, 116, 101], [100, 111, 103], [108, 111, 110, 103], [98, 105, 114, 100], [98, 114, 101, 97, 107], [115, 111, 117, 114], [105, 102], [111, 114], [97, 110, 100], [110, 111, 116], [40], [41], [110, 111, 116, 101, 100], [60], [62], [43], [99, 111, 114, 110, 101, 114], [111, 108, 100], [100, 114, 121], [119, 101, 101, 107]]
def zTn (i : Nat) : Nat := (zTxt.getD i []).length
def zTl (i : Nat) : Int32 := nI (zTn i)
def zTc (i : Nat) (x : Int32) : Int32 := (zTxt.getD i []).getD x.toNatClampNeg 0
def zStr (x : Nat) : Prop := 2000 ≤ x ∧ x < 2033
def zLnsq : List (Nat × Nat × Nat) := [(12, 118, 439), (7, 45, 279)]
def zLns : List (Nat × Nat) := zLnsq.map fun x => (x.1, x.2.1)
def zChsq : List (Nat × Nat × Nat) := [(12, 123, 440), (7, 50, 291)]
def zChs : List (Nat × Nat) := zChsq.map fun x => (x.1, x.2.1)
def zOwn (o : Nat) : String := zOwns.getD o ""
def zMt (y : Nat) : zMT := zMts.getD y (⟨"", "", ""⟩, .empty, 0, none, 0, 0, 0, [])
def zY (y : Nat) : MethodName := (zMt y).1
def zBy (y : Nat) : ByteArray := (zMt y).2.1
def zMx (y : Nat) : Nat := (zMt y).2.2.1
def zRt (y : Nat) : Option FieldType := (zMt y).2.2.2.1
def zNa (y : Nat) : Nat := (zMt y).2.2.2.2.1
def zOo (y : Nat) : Nat := (zMt y).2.2.2.2.2.1
def zRc (y : Nat) : Nat := (zMt y).2.2.2.2.2.2.1
def zCode (y : Nat) : zCd := (zMt y).2.2.2.2.2.2.2
def zRb (y : Nat) : Nat := match zRt y with
  | none => 0
  | some .int => 1
  | some .boolean => 2
  | _ => 3
def zWq (q : Nat) : Option Jvm.Cond := (zWc[q / 24]?).bind fun L => L[q % 24]?
def zWS : List Jvm.Cond := zWc.flatten
theorem zWq_in {q : Nat} {w : Jvm.Cond} (h : zWq q = some w) : w ∈ zWS := by
  unfold zWq at h
  cases hL : zWc[q / 24]? with
  | none => rw [hL] at h; cases h
  | some L =>
    rw [hL] at h
    exact List.mem_flatten.mpr ⟨L, List.mem_of_getElem? hL, List.mem_of_getElem? h⟩
def zFt (a b : Nat) : String × String × String × Bool := (zTs.getD a (fun _ => ("", "", "", true))) b
def zOkI (own nl : Nat) (x : zIn) : Bool := match x with
  | (i, n, a, b, k, v) => match i with
    | .aload_n _ => n == 1
    | .aload _ => n == 2
    | .iload_n _ => n == 1
    | .iload _ => n == 2
    | .iconst z => n == 1 && Int32.ofInt z == v
    | .bipush z => n == 2 && (Int8.ofInt z).toInt32 == v
    | .sipush z => n == 3 && (Int16.ofInt z).toInt32 == v
    | .ldc idx => n == 2 && match k with
      | 0 => decide ((own, idx, v) ∈ zKs)
      | _ => decide ((own, idx, a) ∈ zSs)
    | .ldc_w idx => n == 3 && decide ((own, idx, v) ∈ zKs)
    | .istore_n j => n == 1 && decide (j.val < nl)
    | .istore j => n == 2 && decide (j < nl)
    | .astore_n j => n == 1 && decide (j.val < nl)
    | .astore j => n == 2 && decide (j < nl)
    | .iinc j z => n == 3 && Int32.ofInt z == v && decide (j < nl)
    | .iadd => n == 1
    | .isub => n == 1
    | .imul => n == 1
    | .iand => n == 1
    | .ior => n == 1
    | .ixor => n == 1
    | .idiv => n == 1
    | .irem => n == 1
    | .ishl => n == 1
    | .ishr => n == 1
    | .iushr => n == 1
    | .i2b => n == 1
    | .i2l => n == 1
    | .lcmp => n == 1
    | .dup => n == 1
    | .dup2 => n == 1
    | .pop => n == 1
    | .goto _ => n == 3
    | .ifCond _ _ => n == 3
    | .if_icmp _ _ => n == 3
    | .ifnonnull _ => n == 3
    | .getfield idx => n == 3 && decide ((own, idx, a, b) ∈ zFls)
    | .putfield idx => n == 3 && decide ((own, idx, a, b) ∈ zFls) && !(zFt a b).2.2.2 && (match k with
      | 0 => decide ((zFt a b).2.2.1 = "I")
      | _ => decide ((zFt a b).2.2.1 = "Z"))
    | .iaload => n == 1
    | .baload => n == 1
    | .laload => n == 1
    | .aaload => n == 1
    | .iastore => n == 1
    | .bastore => n == 1
    | .lastore => n == 1
    | .arraylength => n == 1
    | .ireturn => n == 1
    | .return_ => n == 1
    | .invokevirtual idx => n == 3 && (match k with
      | 50 => decide ((own, idx) ∈ zLns)
      | 51 => decide ((own, idx) ∈ zChs)
      | _ => decide ((own, idx, a) ∈ zMls) && b == zNa a && k == zRc a && decide (k < 12) && decide (zOo a ≠ 13))
    | .invokestatic idx => n == 3 && (match k with
      | 0 => decide ((own, idx, a) ∈ zMls) && b == zNa a && zRc a == 99 && decide (zOo a ≠ 13)
      | 1 => decide ((own, idx) ∈ zMin)
      | 2 => decide ((own, idx) ∈ zMax)
      | 5 => true
      | _ => decide ((own, idx) ∈ zCps))
    | _ => true
def zStep (C : Bool → Nat → List Value → zM → (Option Value → zM → Prop) → Prop) (cd : zCd) (rb : Nat) (τ : Bool) (P : Nat → zLs → List Value → zM → Prop) (Q : Option Value → zM → Prop) (pc : Nat) (ls : zLs) (st : List Value) (u : zM) : Prop :=
  match zLk cd pc with
  | none => False
  | some (i, n, a, b, k, v) => match i with
    | .aload_n j => zLr ls j.val fun x => P (pc + 1) ls (.ref x :: st) u
    | .aload j => zLr ls j fun x => P (pc + 2) ls (.ref x :: st) u
    | .iload_n j => zLi ls j.val fun x => P (pc + 1) ls (.int x :: st) u
    | .iload j => zLi ls j fun x => P (pc + 2) ls (.int x :: st) u
    | .iconst _ => P (pc + 1) ls (.int v :: st) u
    | .bipush _ => P (pc + 2) ls (.int v :: st) u
    | .sipush _ => P (pc + 3) ls (.int v :: st) u
    | .ldc _ => match k with
      | 0 => P (pc + 2) ls (.int v :: st) u
      | _ => P (pc + 2) ls (.ref a :: st) u
    | .ldc_w _ => P (pc + 3) ls (.int v :: st) u
    | .istore_n j => zI1 st fun x r => P (pc + 1) (zSet ls j.val (.int x)) r u
    | .istore j => zI1 st fun x r => P (pc + 2) (zSet ls j (.int x)) r u
    | .astore_n j => zR1 st fun x r => P (pc + 1) (zSet ls j.val (.ref x)) r u
    | .astore j => zR1 st fun x r => P (pc + 2) (zSet ls j (.ref x)) r u
    | .iinc j _ => zLi ls j fun x => P (pc + 3) (zSet ls j (.int (x + v))) st u
    | .iadd => zI2 st fun y x r => P (pc + 1) ls (.int (x + y) :: r) u
    | .isub => zI2 st fun y x r => P (pc + 1) ls (.int (x - y) :: r) u
    | .imul => zI2 st fun y x r => P (pc + 1) ls (.int (x * y) :: r) u
    | .iand => zI2 st fun y x r => P (pc + 1) ls (.int (x &&& y) :: r) u
    | .ior => zI2 st fun y x r => P (pc + 1) ls (.int (x ||| y) :: r) u
    | .ixor => zI2 st fun y x r => P (pc + 1) ls (.int (x ^^^ y) :: r) u
    | .idiv => zI2 st fun y x r => (¬ y = 0) ∧ P (pc + 1) ls (.int (x / y) :: r) u
    | .irem => zI2 st fun y x r => (¬ y = 0) ∧ P (pc + 1) ls (.int (x - x / y * y) :: r) u
    | .ishl => zI2 st fun y x r => P (pc + 1) ls (.int (x <<< (y &&& 31)) :: r) u
    | .ishr => zI2 st fun y x r => P (pc + 1) ls (.int (x >>> (y &&& 31)) :: r) u
    | .iushr => zI2 st fun y x r => P (pc + 1) ls (.int (x.toUInt32 >>> (y.toUInt32 &&& Int32.toUInt32 31)).toInt32 :: r) u
    | .i2b => zI1 st fun x r => P (pc + 1) ls (.int x.toInt8.toInt32 :: r) u
    | .i2l => zI1 st fun x r => P (pc + 1) ls (.long x.toInt64 :: r) u
    | .lcmp => zL2 st fun y x r => P (pc + 1) ls (.int (lg_cmp x y) :: r) u
    | .dup => zV1 st fun x r => x.category = 1 ∧ P (pc + 1) ls (x :: x :: r) u
    | .dup2 => zV2 st fun x y r => (x.category = 1 ∧ y.category = 1) ∧ P (pc + 1) ls (x :: y :: x :: y :: r) u
    | .pop => zV1 st fun x r => x.category = 1 ∧ P (pc + 1) ls r u
    | .goto o => zJ pc o fun t => P t ls st u
    | .ifCond c o => zI1 st fun x r => zJ pc o fun t => zC1 c x (P t ls r u) (P (pc + 3) ls r u)
    | .if_icmp c o => zI2 st fun y x r => zJ pc o fun t => zC2 c y x (P t ls r u) (P (pc + 3) ls r u)
    | .ifnonnull o => zR1 st fun _ r => zJ pc o fun t => P t ls r u
    | .tableswitch o lo hi os => zI1 st fun x r => (os.size : Int) = hi - lo + 1 ∧ (x.toInt < lo ∨ hi < x.toInt → zJ pc o fun t => P t ls r u) ∧ zSw pc x (fun t => P t ls r u) os.toList lo
    | .getfield _ => zR1 st fun x r => zShapes[x]? = some (.inl a) ∧ match (zFk a)[b]? with
      | some none => P (pc + 3) ls (.int (u x b) :: r) u
      | some (some o) => P (pc + 3) ls (.ref (x + o) :: r) u
      | none => False
    | .putfield _ => zIR st fun y x r => zShapes[x]? = some (.inl a) ∧ match (zFk a)[b]? with
      | some none => match k with
        | 0 => P (pc + 3) ls r (zUp u x b y)
        | _ => (y = 0 ∨ y = 1) ∧ P (pc + 3) ls r (zUp u x b y)
      | _ => False
    | .iaload => zIR st fun y x r => (∃ n, zShapes[x]? = some (.inr (0, n)) ∧ vp_in y n) ∧ P (pc + 1) ls (.int (u x y.toNatClampNeg) :: r) u
    | .baload => zIR st fun y x r => (∃ n, zShapes[x]? = some (.inr (1, n)) ∧ vp_in y n) ∧ P (pc + 1) ls (.int (u x y.toNatClampNeg) :: r) u
    | .laload => zIR st fun y x r => (∃ n, zShapes[x]? = some (.inr (2, n)) ∧ vp_in y n) ∧ P (pc + 1) ls (.long (u x y.toNatClampNeg).toInt64 :: r) u
    | .aaload => zIR st fun y x r => (∃ n, zShapes[x]? = some (.inr (3, n)) ∧ vp_in y n) ∧ P (pc + 1) ls (.ref (x + 1 + 5 * y.toNatClampNeg) :: r) u
    | .iastore => zIIR st fun w y x r => (∃ n, zShapes[x]? = some (.inr (0, n)) ∧ vp_in y n) ∧ P (pc + 1) ls r (zUp u x y.toNatClampNeg w)
    | .bastore => zIIR st fun w y x r => (∃ n, zShapes[x]? = some (.inr (1, n)) ∧ vp_in y n) ∧ P (pc + 1) ls r (zUp u x y.toNatClampNeg (vp_nar .byte w))
    | .lastore => zLIR st fun w y x r => (∃ n, zShapes[x]? = some (.inr (2, n)) ∧ vp_in y n) ∧ w.toInt32.toInt64 = w ∧ P (pc + 1) ls r (zUp u x y.toNatClampNeg w.toInt32)
    | .arraylength => zR1 st fun x r => ∃ t n, zShapes[x]? = some (.inr (t, n)) ∧ P (pc + 1) ls (.int (Int32.ofNat n) :: r) u
    | .ireturn => zI1 st fun x r => r = [] ∧ τ = false ∧ match rb with
      | 1 => Q (some (.int x)) u
      | 2 => (x = 0 ∨ x = 1) ∧ Q (some (.int x)) u
      | _ => False
    | .return_ => st = [] ∧ τ = false ∧ rb = 0 ∧ Q none u
    | .invokevirtual _ => match k with
      | 50 => zR1 st fun x r => r.length ≤ 4 ∧ zStr x ∧ P (pc + 3) ls (.int (zTl (x - 2000)) :: r) u
      | 51 => zIR st fun y x r => r.length ≤ 4 ∧ zStr x ∧ vp_in y (zTn (x - 2000)) ∧ P (pc + 3) ls (.int (zTc (x - 2000) y) :: r) u
      | _ => zPop b st [] fun as st1 => zR1 st1 fun x r => zShapes[x]? = some (.inl k) ∧ r.length ≤ 4 ∧ (C false a (.ref x :: as) u (fun w u' => P (pc + 3) ls (w.toList ++ r) u') ∨ (τ = true ∧ C true a (.ref x :: as) u Q))
    | .invokestatic _ => match k with
      | 0 => zPop b st [] fun as r => r.length ≤ 4 ∧ (C false a as u (fun w u' => P (pc + 3) ls (w.toList ++ r) u') ∨ (τ = true ∧ C true a as u Q))
      | 1 => zI2 st fun y x r => r.length ≤ 4 ∧ P (pc + 3) ls (.int (if y < x then y else x) :: r) u
      | 2 => zI2 st fun y x r => r.length ≤ 4 ∧ P (pc + 3) ls (.int (if x < y then y else x) :: r) u
      | 5 => False
      | _ => zCpy st fun n dp x sp x0 r => r.length ≤ 4 ∧ (∃ n0 n1, zShapes[x0]? = some (.inr (0, n0)) ∧ zShapes[x]? = some (.inr (0, n1)) ∧ ¬ sp < 0 ∧ ¬ dp < 0 ∧ ¬ n < 0 ∧ sp.toNatClampNeg + n.toNatClampNeg ≤ n0 ∧ dp.toNatClampNeg + n.toNatClampNeg ≤ n1) ∧ P (pc + 3) ls r (zRow u x (va_cpy (u x0) (u x) sp.toNatClampNeg dp.toNatClampNeg n.toNatClampNeg))
    | .new _ => τ = true ∧ Q (some (.int v)) u
    | _ => False
