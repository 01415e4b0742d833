def zKP (t : zMT) : Prop := (t.2.2.2.2.2.2.2.all fun x => decide (decode t.2.1 x.1 = .ok (x.2.1, x.2.2.1)) && zOkI t.2.2.2.2.2.1 t.2.2.1 x.2) = true
theorem zkX0_leftAt : zcX0_leftAt.all (fun x => decide (decode cX0_leftAt x.1 = .ok (x.2.1, x.2.2.1)) && zOkI 0 2 x.2) = true := by decide +kernel
theorem zkX0_restAt : zcX0_restAt.all (fun x => decide (decode cX0_restAt x.1 = .ok (x.2.1, x.2.2.1)) && zOkI 0 2 x.2) = true := by decide +kernel
theorem zkX0_comesTo : zcX0_comesTo.all (fun x => decide (decode cX0_comesTo x.1 = .ok (x.2.1, x.2.2.1)) && zOkI 0 2 x.2) = true := by decide +kernel
theorem zkX0_drive_0 : zcX0_drive_0.all (fun x => decide (decode cX0_drive x.1 = .ok (x.2.1, x.2.2.1)) && zOkI 0 10 x.2) = true := by decide +kernel
theorem zkX0_drive_1 : zcX0_drive_1.all (fun x => decide (decode cX0_drive x.1 = .ok (x.2.1, x.2.2.1)) && zOkI 0 10 x.2) = true := by decide +kernel
theorem zkX0_drive : zcX0_drive.all (fun x => decide (decode cX0_drive x.1 = .ok (x.2.1, x.2.2.1)) && zOkI 0 10 x.2) = true := (List.all_append.trans (by rw [zkX0_drive_0]; exact zkX0_drive_1))
theorem zkX0_leave : zcX0_leave.all (fun x => decide (decode cX0_leave x.1 = .ok (x.2.1, x.2.2.1)) && zOkI 0 4 x.2) = true := by decide +kernel
theorem zkX1_copyFrom : zcX1_copyFrom.all (fun x => decide (decode cX1_copyFrom x.1 = .ok (x.2.1, x.2.2.1)) && zOkI 1 2 x.2) = true := by decide +kernel
theorem zkX1_get : zcX1_get.all (fun x => decide (decode cX1_get x.1 = .ok (x.2.1, x.2.2.1)) && zOkI 1 4 x.2) = true := by decide +kernel
theorem zkX1_set : zcX1_set.all (fun x => decide (decode cX1_set x.1 = .ok (x.2.1, x.2.2.1)) && zOkI 1 4 x.2) = true := by decide +kernel
theorem zkX1_addStep : zcX1_addStep.all (fun x => decide (decode cX1_addStep x.1 = .ok (x.2.1, x.2.2.1)) && zOkI 1 4 x.2) = true := by decide +kernel
theorem zkX1_stepAt : zcX1_stepAt.all (fun x => decide (decode cX1_stepAt x.1 = .ok (x.2.1, x.2.2.1)) && zOkI 1 2 x.2) = true := by decide +kernel
theorem zkX1_placeOf : zcX1_placeOf.all (fun x => decide (decode cX1_placeOf x.1 = .ok (x.2.1, x.2.2.1)) && zOkI 1 3 x.2) = true := by decide +kernel
theorem zkX1_changePlaces : zcX1_changePlaces.all (fun x => decide (decode cX1_changePlaces x.1 = .ok (x.2.1, x.2.2.1)) && zOkI 1 4 x.2) = true := by decide +kernel
theorem zkX1_weekday : zcX1_weekday.all (fun x => decide (decode cX1_weekday x.1 = .ok (x.2.1, x.2.2.1)) && zOkI 1 1 x.2) = true := by decide +kernel
theorem zkX1_isNoted : zcX1_isNoted.all (fun x => decide (decode cX1_isNoted x.1 = .ok (x.2.1, x.2.2.1)) && zOkI 1 2 x.2) = true := by decide +kernel
theorem zkX1_alike : zcX1_alike.all (fun x => decide (decode cX1_alike x.1 = .ok (x.2.1, x.2.2.1)) && zOkI 1 4 x.2) = true := by decide +kernel
theorem zkX1_sum : zcX1_sum.all (fun x => decide (decode cX1_sum x.1 = .ok (x.2.1, x.2.2.1)) && zOkI 1 4 x.2) = true := by decide +kernel
theorem zkX1_bottles : zcX1_bottles.all (fun x => decide (decode cX1_bottles x.1 = .ok (x.2.1, x.2.2.1)) && zOkI 1 1 x.2) = true := by decide +kernel
theorem zkX1_drySteps : zcX1_drySteps.all (fun x => decide (decode cX1_drySteps x.1 = .ok (x.2.1, x.2.2.1)) && zOkI 1 3 x.2) = true := by decide +kernel
theorem zkX1_stepsWith : zcX1_stepsWith.all (fun x => decide (decode cX1_stepsWith x.1 = .ok (x.2.1, x.2.2.1)) && zOkI 1 5 x.2) = true := by decide +kernel
theorem zkX1_stepOfMost : zcX1_stepOfMost.all (fun x => decide (decode cX1_stepOfMost x.1 = .ok (x.2.1, x.2.2.1)) && zOkI 1 4 x.2) = true := by decide +kernel
theorem zkX1_addBottles : zcX1_addBottles.all (fun x => decide (decode cX1_addBottles x.1 = .ok (x.2.1, x.2.2.1)) && zOkI 1 4 x.2) = true := by decide +kernel
theorem zkX1_take : zcX1_take.all (fun x => decide (decode cX1_take x.1 = .ok (x.2.1, x.2.2.1)) && zOkI 1 3 x.2) = true := by decide +kernel
theorem zkX1_receive : zcX1_receive.all (fun x => decide (decode cX1_receive x.1 = .ok (x.2.1, x.2.2.1)) && zOkI 1 5 x.2) = true := by decide +kernel
theorem zkX1_drink : zcX1_drink.all (fun x => decide (decode cX1_drink x.1 = .ok (x.2.1, x.2.2.1)) && zOkI 1 2 x.2) = true := by decide +kernel
theorem zkX1_turn : zcX1_turn.all (fun x => decide (decode cX1_turn x.1 = .ok (x.2.1, x.2.2.1)) && zOkI 1 3 x.2) = true := by decide +kernel
theorem zkX1_draw : zcX1_draw.all (fun x => decide (decode cX1_draw x.1 = .ok (x.2.1, x.2.2.1)) && zOkI 1 1 x.2) = true := by decide +kernel
theorem zkX2_valueCode : zcX2_valueCode.all (fun x => decide (decode cX2_valueCode x.1 = .ok (x.2.1, x.2.2.1)) && zOkI 2 1 x.2) = true := by decide +kernel
theorem zkX2_begin : zcX2_begin.all (fun x => decide (decode cX2_begin x.1 = .ok (x.2.1, x.2.2.1)) && zOkI 2 1 x.2) = true := by decide +kernel
theorem zkX2_addLine : zcX2_addLine.all (fun x => decide (decode cX2_addLine x.1 = .ok (x.2.1, x.2.2.1)) && zOkI 2 3 x.2) = true := by decide +kernel
theorem zkX2_endLine : zcX2_endLine.all (fun x => decide (decode cX2_endLine x.1 = .ok (x.2.1, x.2.2.1)) && zOkI 2 1 x.2) = true := by decide +kernel
theorem zkX2_put : zcX2_put.all (fun x => decide (decode cX2_put x.1 = .ok (x.2.1, x.2.2.1)) && zOkI 2 2 x.2) = true := by decide +kernel
theorem zkX2_copyFrom : zcX2_copyFrom.all (fun x => decide (decode cX2_copyFrom x.1 = .ok (x.2.1, x.2.2.1)) && zOkI 2 2 x.2) = true := by decide +kernel
theorem zkX2_weigh : zcX2_weigh.all (fun x => decide (decode cX2_weigh x.1 = .ok (x.2.1, x.2.2.1)) && zOkI 2 6 x.2) = true := by decide +kernel
theorem zkX2_applies_0 : zcX2_applies_0.all (fun x => decide (decode cX2_applies x.1 = .ok (x.2.1, x.2.2.1)) && zOkI 2 8 x.2) = true := by decide +kernel
theorem zkX2_applies_1 : zcX2_applies_1.all (fun x => decide (decode cX2_applies x.1 = .ok (x.2.1, x.2.2.1)) && zOkI 2 8 x.2) = true := by decide +kernel
theorem zkX2_applies : zcX2_applies.all (fun x => decide (decode cX2_applies x.1 = .ok (x.2.1, x.2.2.1)) && zOkI 2 8 x.2) = true := (List.all_append.trans (by rw [zkX2_applies_0]; exact zkX2_applies_1))
theorem zkX2_joined : zcX2_joined.all (fun x => decide (decode cX2_joined x.1 = .ok (x.2.1, x.2.2.1)) && zOkI 2 3 x.2) = true := by decide +kernel
theorem zkX2_push : zcX2_push.all (fun x => decide (decode cX2_push x.1 = .ok (x.2.1, x.2.2.1)) && zOkI 2 2 x.2) = true := by decide +kernel
theorem zkX2_pop : zcX2_pop.all (fun x => decide (decode cX2_pop x.1 = .ok (x.2.1, x.2.2.1)) && zOkI 2 1 x.2) = true := by decide +kernel
theorem zkX3_add : zcX3_add.all (fun x => decide (decode cX3_add x.1 = .ok (x.2.1, x.2.2.1)) && zOkI 3 6 x.2) = true := by decide +kernel
theorem zkX3_cell : zcX3_cell.all (fun x => decide (decode cX3_cell x.1 = .ok (x.2.1, x.2.2.1)) && zOkI 3 4 x.2) = true := by decide +kernel
theorem zkX3_rowsOf : zcX3_rowsOf.all (fun x => decide (decode cX3_rowsOf x.1 = .ok (x.2.1, x.2.2.1)) && zOkI 3 4 x.2) = true := by decide +kernel
theorem zkX3_latestDayOf : zcX3_latestDayOf.all (fun x => decide (decode cX3_latestDayOf x.1 = .ok (x.2.1, x.2.2.1)) && zOkI 3 3 x.2) = true := by decide +kernel
theorem zkX3_copyFrom : zcX3_copyFrom.all (fun x => decide (decode cX3_copyFrom x.1 = .ok (x.2.1, x.2.2.1)) && zOkI 3 2 x.2) = true := by decide +kernel
theorem zkX4_best : zcX4_best.all (fun x => decide (decode cX4_best x.1 = .ok (x.2.1, x.2.2.1)) && zOkI 4 2 x.2) = true := by decide +kernel
theorem zkX4_number : zcX4_number.all (fun x => decide (decode cX4_number x.1 = .ok (x.2.1, x.2.2.1)) && zOkI 4 2 x.2) = true := by decide +kernel
theorem zkX4_farTogether : zcX4_farTogether.all (fun x => decide (decode cX4_farTogether x.1 = .ok (x.2.1, x.2.2.1)) && zOkI 4 2 x.2) = true := by decide +kernel
theorem zkX4_put_0 : zcX4_put_0.all (fun x => decide (decode cX4_put x.1 = .ok (x.2.1, x.2.2.1)) && zOkI 4 7 x.2) = true := by decide +kernel
theorem zkX4_put_1 : zcX4_put_1.all (fun x => decide (decode cX4_put x.1 = .ok (x.2.1, x.2.2.1)) && zOkI 4 7 x.2) = true := by decide +kernel
theorem zkX4_put : zcX4_put.all (fun x => decide (decode cX4_put x.1 = .ok (x.2.1, x.2.2.1)) && zOkI 4 7 x.2) = true := (List.all_append.trans (by rw [zkX4_put_0]; exact zkX4_put_1))
theorem zkX4_withPair : zcX4_withPair.all (fun x => decide (decode cX4_withPair x.1 = .ok (x.2.1, x.2.2.1)) && zOkI 4 7 x.2) = true := by decide +kernel
theorem zkX4_partnerOf : zcX4_partnerOf.all (fun x => decide (decode cX4_partnerOf x.1 = .ok (x.2.1, x.2.2.1)) && zOkI 4 7 x.2) = true := by decide +kernel
theorem zkX4_firstPartner : zcX4_firstPartner.all (fun x => decide (decode cX4_firstPartner x.1 = .ok (x.2.1, x.2.2.1)) && zOkI 4 6 x.2) = true := by decide +kernel
theorem zkX5_isCorner : zcX5_isCorner.all (fun x => decide (decode cX5_isCorner x.1 = .ok (x.2.1, x.2.2.1)) && zOkI 5 1 x.2) = true := by decide +kernel
theorem zkX5_roadBetween : zcX5_roadBetween.all (fun x => decide (decode cX5_roadBetween x.1 = .ok (x.2.1, x.2.2.1)) && zOkI 5 3 x.2) = true := by decide +kernel
theorem zkX5_setRoad : zcX5_setRoad.all (fun x => decide (decode cX5_setRoad x.1 = .ok (x.2.1, x.2.2.1)) && zOkI 5 4 x.2) = true := by decide +kernel
theorem zkX5_between : zcX5_between.all (fun x => decide (decode cX5_between x.1 = .ok (x.2.1, x.2.2.1)) && zOkI 5 3 x.2) = true := by decide +kernel
theorem zkX5_copyFrom : zcX5_copyFrom.all (fun x => decide (decode cX5_copyFrom x.1 = .ok (x.2.1, x.2.2.1)) && zOkI 5 2 x.2) = true := by decide +kernel
theorem zkX5_roads : zcX5_roads.all (fun x => decide (decode cX5_roads x.1 = .ok (x.2.1, x.2.2.1)) && zOkI 5 3 x.2) = true := by decide +kernel
theorem zkX5_measure : zcX5_measure.all (fun x => decide (decode cX5_measure x.1 = .ok (x.2.1, x.2.2.1)) && zOkI 5 3 x.2) = true := by decide +kernel
theorem zkX5_shorten : zcX5_shorten.all (fun x => decide (decode cX5_shorten x.1 = .ok (x.2.1, x.2.2.1)) && zOkI 5 6 x.2) = true := by decide +kernel
theorem zkX5_reach_0 : zcX5_reach_0.all (fun x => decide (decode cX5_reach x.1 = .ok (x.2.1, x.2.2.1)) && zOkI 5 11 x.2) = true := by decide +kernel
theorem zkX5_reach_1 : zcX5_reach_1.all (fun x => decide (decode cX5_reach x.1 = .ok (x.2.1, x.2.2.1)) && zOkI 5 11 x.2) = true := by decide +kernel
theorem zkX5_reach : zcX5_reach.all (fun x => decide (decode cX5_reach x.1 = .ok (x.2.1, x.2.2.1)) && zOkI 5 11 x.2) = true := (List.all_append.trans (by rw [zkX5_reach_0]; exact zkX5_reach_1))
theorem zkX5_lowest : zcX5_lowest.all (fun x => decide (decode cX5_lowest x.1 = .ok (x.2.1, x.2.2.1)) && zOkI 5 2 x.2) = true := by decide +kernel
theorem zkX6_copyFrom : zcX6_copyFrom.all (fun x => decide (decode cX6_copyFrom x.1 = .ok (x.2.1, x.2.2.1)) && zOkI 6 2 x.2) = true := by decide +kernel
theorem zkX6_farFromDairy : zcX6_farFromDairy.all (fun x => decide (decode cX6_farFromDairy x.1 = .ok (x.2.1, x.2.2.1)) && zOkI 6 2 x.2) = true := by decide +kernel
theorem zkX6_wayWith : zcX6_wayWith.all (fun x => decide (decode cX6_wayWith x.1 = .ok (x.2.1, x.2.2.1)) && zOkI 6 8 x.2) = true := by decide +kernel
theorem zkX6_drive : zcX6_drive.all (fun x => decide (decode cX6_drive x.1 = .ok (x.2.1, x.2.2.1)) && zOkI 6 1 x.2) = true := by decide +kernel
theorem zkX6_deliver : zcX6_deliver.all (fun x => decide (decode cX6_deliver x.1 = .ok (x.2.1, x.2.2.1)) && zOkI 6 2 x.2) = true := by decide +kernel
theorem zkX6_writeLog : zcX6_writeLog.all (fun x => decide (decode cX6_writeLog x.1 = .ok (x.2.1, x.2.2.1)) && zOkI 6 3 x.2) = true := by decide +kernel
theorem zkX6_birdsAndFrost_0 : zcX6_birdsAndFrost_0.all (fun x => decide (decode cX6_birdsAndFrost x.1 = .ok (x.2.1, x.2.2.1)) && zOkI 6 2 x.2) = true := by decide +kernel
theorem zkX6_birdsAndFrost_1 : zcX6_birdsAndFrost_1.all (fun x => decide (decode cX6_birdsAndFrost x.1 = .ok (x.2.1, x.2.2.1)) && zOkI 6 2 x.2) = true := by decide +kernel
theorem zkX6_birdsAndFrost : zcX6_birdsAndFrost.all (fun x => decide (decode cX6_birdsAndFrost x.1 = .ok (x.2.1, x.2.2.1)) && zOkI 6 2 x.2) = true := (List.all_append.trans (by rw [zkX6_birdsAndFrost_0]; exact zkX6_birdsAndFrost_1))
theorem zkX6_drinkAndSour : zcX6_drinkAndSour.all (fun x => decide (decode cX6_drinkAndSour x.1 = .ok (x.2.1, x.2.2.1)) && zOkI 6 2 x.2) = true := by decide +kernel
theorem zkX6_quietMornings : zcX6_quietMornings.all (fun x => decide (decode cX6_quietMornings x.1 = .ok (x.2.1, x.2.2.1)) && zOkI 6 3 x.2) = true := by decide +kernel
theorem zkX6_wildMornings : zcX6_wildMornings.all (fun x => decide (decode cX6_wildMornings x.1 = .ok (x.2.1, x.2.2.1)) && zOkI 6 3 x.2) = true := by decide +kernel
theorem zkX7_hasRoom : zcX7_hasRoom.all (fun x => decide (decode cX7_hasRoom x.1 = .ok (x.2.1, x.2.2.1)) && zOkI 7 1 x.2) = true := by decide +kernel
theorem zkX7_add : zcX7_add.all (fun x => decide (decode cX7_add x.1 = .ok (x.2.1, x.2.2.1)) && zOkI 7 3 x.2) = true := by decide +kernel
theorem zkX7_keepFirst : zcX7_keepFirst.all (fun x => decide (decode cX7_keepFirst x.1 = .ok (x.2.1, x.2.2.1)) && zOkI 7 2 x.2) = true := by decide +kernel
theorem zkX7_useUp : zcX7_useUp.all (fun x => decide (decode cX7_useUp x.1 = .ok (x.2.1, x.2.2.1)) && zOkI 7 1 x.2) = true := by decide +kernel
theorem zkX7_byteAt : zcX7_byteAt.all (fun x => decide (decode cX7_byteAt x.1 = .ok (x.2.1, x.2.2.1)) && zOkI 7 2 x.2) = true := by decide +kernel
theorem zkX7_sortOf : zcX7_sortOf.all (fun x => decide (decode cX7_sortOf x.1 = .ok (x.2.1, x.2.2.1)) && zOkI 7 1 x.2) = true := by decide +kernel
theorem zkX7_startText : zcX7_startText.all (fun x => decide (decode cX7_startText x.1 = .ok (x.2.1, x.2.2.1)) && zOkI 7 1 x.2) = true := by decide +kernel
theorem zkX7_goOn_0 : zcX7_goOn_0.all (fun x => decide (decode cX7_goOn x.1 = .ok (x.2.1, x.2.2.1)) && zOkI 7 2 x.2) = true := by decide +kernel
theorem zkX7_goOn_1 : zcX7_goOn_1.all (fun x => decide (decode cX7_goOn x.1 = .ok (x.2.1, x.2.2.1)) && zOkI 7 2 x.2) = true := by decide +kernel
theorem zkX7_goOn : zcX7_goOn.all (fun x => decide (decode cX7_goOn x.1 = .ok (x.2.1, x.2.2.1)) && zOkI 7 2 x.2) = true := (List.all_append.trans (by rw [zkX7_goOn_0]; exact zkX7_goOn_1))
theorem zkX7_atEnd : zcX7_atEnd.all (fun x => decide (decode cX7_atEnd x.1 = .ok (x.2.1, x.2.2.1)) && zOkI 7 1 x.2) = true := by decide +kernel
theorem zkX7_fail : zcX7_fail.all (fun x => decide (decode cX7_fail x.1 = .ok (x.2.1, x.2.2.1)) && zOkI 7 1 x.2) = true := by decide +kernel
theorem zkX7_nextIs : zcX7_nextIs.all (fun x => decide (decode cX7_nextIs x.1 = .ok (x.2.1, x.2.2.1)) && zOkI 7 4 x.2) = true := by decide +kernel
theorem zkX7_nextIsDigit : zcX7_nextIsDigit.all (fun x => decide (decode cX7_nextIsDigit x.1 = .ok (x.2.1, x.2.2.1)) && zOkI 7 1 x.2) = true := by decide +kernel
theorem zkX7_word : zcX7_word.all (fun x => decide (decode cX7_word x.1 = .ok (x.2.1, x.2.2.1)) && zOkI 7 3 x.2) = true := by decide +kernel
theorem zkX7_needWord : zcX7_needWord.all (fun x => decide (decode cX7_needWord x.1 = .ok (x.2.1, x.2.2.1)) && zOkI 7 2 x.2) = true := by decide +kernel
theorem zkX7_number_0 : zcX7_number_0.all (fun x => decide (decode cX7_number x.1 = .ok (x.2.1, x.2.2.1)) && zOkI 7 7 x.2) = true := by decide +kernel
theorem zkX7_number_1 : zcX7_number_1.all (fun x => decide (decode cX7_number x.1 = .ok (x.2.1, x.2.2.1)) && zOkI 7 7 x.2) = true := by decide +kernel
theorem zkX7_number : zcX7_number.all (fun x => decide (decode cX7_number x.1 = .ok (x.2.1, x.2.2.1)) && zOkI 7 7 x.2) = true := (List.all_append.trans (by rw [zkX7_number_0]; exact zkX7_number_1))
theorem zkX8_read : zcX8_read.all (fun x => decide (decode cX8_read x.1 = .ok (x.2.1, x.2.2.1)) && zOkI 8 6 x.2) = true := by decide +kernel
theorem zkX8_readPlainLine_0 : zcX8_readPlainLine_0.all (fun x => decide (decode cX8_readPlainLine x.1 = .ok (x.2.1, x.2.2.1)) && zOkI 8 3 x.2) = true := by decide +kernel
theorem zkX8_readPlainLine_1 : zcX8_readPlainLine_1.all (fun x => decide (decode cX8_readPlainLine x.1 = .ok (x.2.1, x.2.2.1)) && zOkI 8 3 x.2) = true := by decide +kernel
theorem zkX8_readPlainLine : zcX8_readPlainLine.all (fun x => decide (decode cX8_readPlainLine x.1 = .ok (x.2.1, x.2.2.1)) && zOkI 8 3 x.2) = true := (List.all_append.trans (by rw [zkX8_readPlainLine_0]; exact zkX8_readPlainLine_1))
theorem zkX8_readStep_0 : zcX8_readStep_0.all (fun x => decide (decode cX8_readStep x.1 = .ok (x.2.1, x.2.2.1)) && zOkI 8 3 x.2) = true := by decide +kernel
theorem zkX8_readStep_1 : zcX8_readStep_1.all (fun x => decide (decode cX8_readStep x.1 = .ok (x.2.1, x.2.2.1)) && zOkI 8 3 x.2) = true := by decide +kernel
theorem zkX8_readStep : zcX8_readStep.all (fun x => decide (decode cX8_readStep x.1 = .ok (x.2.1, x.2.2.1)) && zOkI 8 3 x.2) = true := (List.all_append.trans (by rw [zkX8_readStep_0]; exact zkX8_readStep_1))
theorem zkX8_readRoad : zcX8_readRoad.all (fun x => decide (decode cX8_readRoad x.1 = .ok (x.2.1, x.2.2.1)) && zOkI 8 4 x.2) = true := by decide +kernel
theorem zkX8_readLawLine : zcX8_readLawLine.all (fun x => decide (decode cX8_readLawLine x.1 = .ok (x.2.1, x.2.2.1)) && zOkI 8 3 x.2) = true := by decide +kernel
theorem zkX8_readAny : zcX8_readAny.all (fun x => decide (decode cX8_readAny x.1 = .ok (x.2.1, x.2.2.1)) && zOkI 8 4 x.2) = true := by decide +kernel
theorem zkX8_readAll : zcX8_readAll.all (fun x => decide (decode cX8_readAll x.1 = .ok (x.2.1, x.2.2.1)) && zOkI 8 4 x.2) = true := by decide +kernel
theorem zkX8_readAtom_0 : zcX8_readAtom_0.all (fun x => decide (decode cX8_readAtom x.1 = .ok (x.2.1, x.2.2.1)) && zOkI 8 5 x.2) = true := by decide +kernel
theorem zkX8_readAtom_1 : zcX8_readAtom_1.all (fun x => decide (decode cX8_readAtom x.1 = .ok (x.2.1, x.2.2.1)) && zOkI 8 5 x.2) = true := by decide +kernel
theorem zkX8_readAtom : zcX8_readAtom.all (fun x => decide (decode cX8_readAtom x.1 = .ok (x.2.1, x.2.2.1)) && zOkI 8 5 x.2) = true := (List.all_append.trans (by rw [zkX8_readAtom_0]; exact zkX8_readAtom_1))
theorem zkX8_readSum : zcX8_readSum.all (fun x => decide (decode cX8_readSum x.1 = .ok (x.2.1, x.2.2.1)) && zOkI 8 3 x.2) = true := by decide +kernel
theorem zkX8_readPart_0 : zcX8_readPart_0.all (fun x => decide (decode cX8_readPart x.1 = .ok (x.2.1, x.2.2.1)) && zOkI 8 2 x.2) = true := by decide +kernel
theorem zkX8_readPart_1 : zcX8_readPart_1.all (fun x => decide (decode cX8_readPart x.1 = .ok (x.2.1, x.2.2.1)) && zOkI 8 2 x.2) = true := by decide +kernel
theorem zkX8_readPart : zcX8_readPart.all (fun x => decide (decode cX8_readPart x.1 = .ok (x.2.1, x.2.2.1)) && zOkI 8 2 x.2) = true := (List.all_append.trans (by rw [zkX8_readPart_0]; exact zkX8_readPart_1))
theorem zkX9_forget : zcX9_forget.all (fun x => decide (decode cX9_forget x.1 = .ok (x.2.1, x.2.2.1)) && zOkI 9 1 x.2) = true := by decide +kernel
theorem zkX9_restOf : zcX9_restOf.all (fun x => decide (decode cX9_restOf x.1 = .ok (x.2.1, x.2.2.1)) && zOkI 9 4 x.2) = true := by decide +kernel
theorem zkX9_wayOf : zcX9_wayOf.all (fun x => decide (decode cX9_wayOf x.1 = .ok (x.2.1, x.2.2.1)) && zOkI 9 2 x.2) = true := by decide +kernel
theorem zkX9_cornerOf : zcX9_cornerOf.all (fun x => decide (decode cX9_cornerOf x.1 = .ok (x.2.1, x.2.2.1)) && zOkI 9 2 x.2) = true := by decide +kernel
theorem zkX9_measure : zcX9_measure.all (fun x => decide (decode cX9_measure x.1 = .ok (x.2.1, x.2.2.1)) && zOkI 9 6 x.2) = true := by decide +kernel
theorem zkX9_leastFrom : zcX9_leastFrom.all (fun x => decide (decode cX9_leastFrom x.1 = .ok (x.2.1, x.2.2.1)) && zOkI 9 7 x.2) = true := by decide +kernel
theorem zkX9_wayBy : zcX9_wayBy.all (fun x => decide (decode cX9_wayBy x.1 = .ok (x.2.1, x.2.2.1)) && zOkI 9 6 x.2) = true := by decide +kernel
theorem zkX9_stepOfFirst : zcX9_stepOfFirst.all (fun x => decide (decode cX9_stepOfFirst x.1 = .ok (x.2.1, x.2.2.1)) && zOkI 9 6 x.2) = true := by decide +kernel
theorem zkX9_firstStep : zcX9_firstStep.all (fun x => decide (decode cX9_firstStep x.1 = .ok (x.2.1, x.2.2.1)) && zOkI 9 7 x.2) = true := by decide +kernel
theorem zkX10_hear_0 : zcX10_hear_0.all (fun x => decide (decode cX10_hear x.1 = .ok (x.2.1, x.2.2.1)) && zOkI 10 7 x.2) = true := by decide +kernel
theorem zkX10_hear_1 : zcX10_hear_1.all (fun x => decide (decode cX10_hear x.1 = .ok (x.2.1, x.2.2.1)) && zOkI 10 7 x.2) = true := by decide +kernel
theorem zkX10_hear : zcX10_hear.all (fun x => decide (decode cX10_hear x.1 = .ok (x.2.1, x.2.2.1)) && zOkI 10 7 x.2) = true := (List.all_append.trans (by rw [zkX10_hear_0]; exact zkX10_hear_1))
theorem zkX10_look : zcX10_look.all (fun x => decide (decode cX10_look x.1 = .ok (x.2.1, x.2.2.1)) && zOkI 10 4 x.2) = true := by decide +kernel
theorem zkX10_countGiven : zcX10_countGiven.all (fun x => decide (decode cX10_countGiven x.1 = .ok (x.2.1, x.2.2.1)) && zOkI 10 3 x.2) = true := by decide +kernel
theorem zkX10_bestStep : zcX10_bestStep.all (fun x => decide (decode cX10_bestStep x.1 = .ok (x.2.1, x.2.2.1)) && zOkI 10 6 x.2) = true := by decide +kernel
theorem zkX11_feed : zcX11_feed.all (fun x => decide (decode cX11_feed x.1 = .ok (x.2.1, x.2.2.1)) && zOkI 11 6 x.2) = true := by decide +kernel
theorem zkX11_end : zcX11_end.all (fun x => decide (decode cX11_end x.1 = .ok (x.2.1, x.2.2.1)) && zOkI 11 2 x.2) = true := by decide +kernel
theorem zkX11_suburb_0 : zcX11_suburb_0.all (fun x => decide (decode cX11_suburb x.1 = .ok (x.2.1, x.2.2.1)) && zOkI 11 1 x.2) = true := by decide +kernel
theorem zkX11_suburb_1 : zcX11_suburb_1.all (fun x => decide (decode cX11_suburb x.1 = .ok (x.2.1, x.2.2.1)) && zOkI 11 1 x.2) = true := by decide +kernel
theorem zkX11_suburb : zcX11_suburb.all (fun x => decide (decode cX11_suburb x.1 = .ok (x.2.1, x.2.2.1)) && zOkI 11 1 x.2) = true := (List.all_append.trans (by rw [zkX11_suburb_0]; exact zkX11_suburb_1))
theorem zkX11_law : zcX11_law.all (fun x => decide (decode cX11_law x.1 = .ok (x.2.1, x.2.2.1)) && zOkI 11 1 x.2) = true := by decide +kernel
theorem zkX11_fault : zcX11_fault.all (fun x => decide (decode cX11_fault x.1 = .ok (x.2.1, x.2.2.1)) && zOkI 11 1 x.2) = true := by decide +kernel
theorem zkX11_step : zcX11_step.all (fun x => decide (decode cX11_step x.1 = .ok (x.2.1, x.2.2.1)) && zOkI 11 3 x.2) = true := by decide +kernel
theorem zkX11_far : zcX11_far.all (fun x => decide (decode cX11_far x.1 = .ok (x.2.1, x.2.2.1)) && zOkI 11 3 x.2) = true := by decide +kernel
theorem zkX11_road : zcX11_road.all (fun x => decide (decode cX11_road x.1 = .ok (x.2.1, x.2.2.1)) && zOkI 11 4 x.2) = true := by decide +kernel
theorem zkX11_round : zcX11_round.all (fun x => decide (decode cX11_round x.1 = .ok (x.2.1, x.2.2.1)) && zOkI 11 2 x.2) = true := by decide +kernel
theorem zkX11_mornings : zcX11_mornings.all (fun x => decide (decode cX11_mornings x.1 = .ok (x.2.1, x.2.2.1)) && zOkI 11 4 x.2) = true := by decide +kernel
theorem zkX11_pay : zcX11_pay.all (fun x => decide (decode cX11_pay x.1 = .ok (x.2.1, x.2.2.1)) && zOkI 11 4 x.2) = true := by decide +kernel
theorem zkX11_note : zcX11_note.all (fun x => decide (decode cX11_note x.1 = .ok (x.2.1, x.2.2.1)) && zOkI 11 3 x.2) = true := by decide +kernel
theorem zkX11_kind : zcX11_kind.all (fun x => decide (decode cX11_kind x.1 = .ok (x.2.1, x.2.2.1)) && zOkI 11 3 x.2) = true := by decide +kernel
theorem zkX11_change : zcX11_change.all (fun x => decide (decode cX11_change x.1 = .ok (x.2.1, x.2.2.1)) && zOkI 11 3 x.2) = true := by decide +kernel
theorem zkX11_charge : zcX11_charge.all (fun x => decide (decode cX11_charge x.1 = .ok (x.2.1, x.2.2.1)) && zOkI 11 3 x.2) = true := by decide +kernel
theorem zkX11_crates : zcX11_crates.all (fun x => decide (decode cX11_crates x.1 = .ok (x.2.1, x.2.2.1)) && zOkI 11 3 x.2) = true := by decide +kernel
theorem zkX11_lend_0 : zcX11_lend_0.all (fun x => decide (decode cX11_lend x.1 = .ok (x.2.1, x.2.2.1)) && zOkI 11 6 x.2) = true := by decide +kernel
theorem zkX11_lend_1 : zcX11_lend_1.all (fun x => decide (decode cX11_lend x.1 = .ok (x.2.1, x.2.2.1)) && zOkI 11 6 x.2) = true := by decide +kernel
theorem zkX11_lend : zcX11_lend.all (fun x => decide (decode cX11_lend x.1 = .ok (x.2.1, x.2.2.1)) && zOkI 11 6 x.2) = true := (List.all_append.trans (by rw [zkX11_lend_0]; exact zkX11_lend_1))
theorem zkX11_leaves : zcX11_leaves.all (fun x => decide (decode cX11_leaves x.1 = .ok (x.2.1, x.2.2.1)) && zOkI 11 1 x.2) = true := by decide +kernel
theorem zkX11_passed : zcX11_passed.all (fun x => decide (decode cX11_passed x.1 = .ok (x.2.1, x.2.2.1)) && zOkI 11 1 x.2) = true := by decide +kernel
theorem zkX11_home : zcX11_home.all (fun x => decide (decode cX11_home x.1 = .ok (x.2.1, x.2.2.1)) && zOkI 11 1 x.2) = true := by decide +kernel
theorem zkX11_way : zcX11_way.all (fun x => decide (decode cX11_way x.1 = .ok (x.2.1, x.2.2.1)) && zOkI 11 1 x.2) = true := by decide +kernel
theorem zkX11_shortest : zcX11_shortest.all (fun x => decide (decode cX11_shortest x.1 = .ok (x.2.1, x.2.2.1)) && zOkI 11 2 x.2) = true := by decide +kernel
theorem zkX11_most : zcX11_most.all (fun x => decide (decode cX11_most x.1 = .ok (x.2.1, x.2.2.1)) && zOkI 11 4 x.2) = true := by decide +kernel
theorem zkX11_least : zcX11_least.all (fun x => decide (decode cX11_least x.1 = .ok (x.2.1, x.2.2.1)) && zOkI 11 2 x.2) = true := by decide +kernel
theorem zkX11_dairy : zcX11_dairy.all (fun x => decide (decode cX11_dairy x.1 = .ok (x.2.1, x.2.2.1)) && zOkI 11 5 x.2) = true := by decide +kernel
theorem zkX11_bridges : zcX11_bridges.all (fun x => decide (decode cX11_bridges x.1 = .ok (x.2.1, x.2.2.1)) && zOkI 11 6 x.2) = true := by decide +kernel
theorem zkX11_cut : zcX11_cut.all (fun x => decide (decode cX11_cut x.1 = .ok (x.2.1, x.2.2.1)) && zOkI 11 2 x.2) = true := by decide +kernel
theorem zkX11_dries : zcX11_dries.all (fun x => decide (decode cX11_dries x.1 = .ok (x.2.1, x.2.2.1)) && zOkI 11 4 x.2) = true := by decide +kernel
theorem zkX11_owes : zcX11_owes.all (fun x => decide (decode cX11_owes x.1 = .ok (x.2.1, x.2.2.1)) && zOkI 11 3 x.2) = true := by decide +kernel
theorem zkX11_pays : zcX11_pays.all (fun x => decide (decode cX11_pays x.1 = .ok (x.2.1, x.2.2.1)) && zOkI 11 5 x.2) = true := by decide +kernel
theorem zkX11_holds : zcX11_holds.all (fun x => decide (decode cX11_holds x.1 = .ok (x.2.1, x.2.2.1)) && zOkI 11 2 x.2) = true := by decide +kernel
theorem zkX11_ahead : zcX11_ahead.all (fun x => decide (decode cX11_ahead x.1 = .ok (x.2.1, x.2.2.1)) && zOkI 11 4 x.2) = true := by decide +kernel
theorem zkX11_trial : zcX11_trial.all (fun x => decide (decode cX11_trial x.1 = .ok (x.2.1, x.2.2.1)) && zOkI 11 3 x.2) = true := by decide +kernel
theorem zkX11_span : zcX11_span.all (fun x => decide (decode cX11_span x.1 = .ok (x.2.1, x.2.2.1)) && zOkI 11 6 x.2) = true := by decide +kernel
theorem zkX11_seen : zcX11_seen.all (fun x => decide (decode cX11_seen x.1 = .ok (x.2.1, x.2.2.1)) && zOkI 11 2 x.2) = true := by decide +kernel
theorem zkX11_ask : zcX11_ask.all (fun x => decide (decode cX11_ask x.1 = .ok (x.2.1, x.2.2.1)) && zOkI 11 1 x.2) = true := by decide +kernel
theorem zkX11_neighbours : zcX11_neighbours.all (fun x => decide (decode cX11_neighbours x.1 = .ok (x.2.1, x.2.2.1)) && zOkI 11 2 x.2) = true := by decide +kernel
theorem zkX11_neighbour : zcX11_neighbour.all (fun x => decide (decode cX11_neighbour x.1 = .ok (x.2.1, x.2.2.1)) && zOkI 11 2 x.2) = true := by decide +kernel
theorem zkX11_gutter : zcX11_gutter.all (fun x => decide (decode cX11_gutter x.1 = .ok (x.2.1, x.2.2.1)) && zOkI 11 5 x.2) = true := by decide +kernel
theorem zkX11_rests_0 : zcX11_rests_0.all (fun x => decide (decode cX11_rests x.1 = .ok (x.2.1, x.2.2.1)) && zOkI 11 7 x.2) = true := by decide +kernel
theorem zkX11_rests_1 : zcX11_rests_1.all (fun x => decide (decode cX11_rests x.1 = .ok (x.2.1, x.2.2.1)) && zOkI 11 7 x.2) = true := by decide +kernel
theorem zkX11_rests : zcX11_rests.all (fun x => decide (decode cX11_rests x.1 = .ok (x.2.1, x.2.2.1)) && zOkI 11 7 x.2) = true := (List.all_append.trans (by rw [zkX11_rests_0]; exact zkX11_rests_1))
theorem zkX11_cross : zcX11_cross.all (fun x => decide (decode cX11_cross x.1 = .ok (x.2.1, x.2.2.1)) && zOkI 11 4 x.2) = true := by decide +kernel
theorem zkX11_swap : zcX11_swap.all (fun x => decide (decode cX11_swap x.1 = .ok (x.2.1, x.2.2.1)) && zOkI 11 6 x.2) = true := by decide +kernel
theorem zkX11_foil : zcX11_foil.all (fun x => decide (decode cX11_foil x.1 = .ok (x.2.1, x.2.2.1)) && zOkI 11 2 x.2) = true := by decide +kernel
theorem zkX11_dogs : zcX11_dogs.all (fun x => decide (decode cX11_dogs x.1 = .ok (x.2.1, x.2.2.1)) && zOkI 11 1 x.2) = true := by decide +kernel
theorem zkX11_noted : zcX11_noted.all (fun x => decide (decode cX11_noted x.1 = .ok (x.2.1, x.2.2.1)) && zOkI 11 2 x.2) = true := by decide +kernel
theorem zkX11_thirsty : zcX11_thirsty.all (fun x => decide (decode cX11_thirsty x.1 = .ok (x.2.1, x.2.2.1)) && zOkI 11 2 x.2) = true := by decide +kernel
theorem zkX11_rich : zcX11_rich.all (fun x => decide (decode cX11_rich x.1 = .ok (x.2.1, x.2.2.1)) && zOkI 11 1 x.2) = true := by decide +kernel
theorem zkX11_odds : zcX11_odds.all (fun x => decide (decode cX11_odds x.1 = .ok (x.2.1, x.2.2.1)) && zOkI 11 6 x.2) = true := by decide +kernel
theorem zkX11_twins : zcX11_twins.all (fun x => decide (decode cX11_twins x.1 = .ok (x.2.1, x.2.2.1)) && zOkI 11 4 x.2) = true := by decide +kernel
theorem zkX11_led : zcX11_led.all (fun x => decide (decode cX11_led x.1 = .ok (x.2.1, x.2.2.1)) && zOkI 11 3 x.2) = true := by decide +kernel
theorem zkX11_log : zcX11_log.all (fun x => decide (decode cX11_log x.1 = .ok (x.2.1, x.2.2.1)) && zOkI 11 3 x.2) = true := by decide +kernel
theorem zkX11_seed : zcX11_seed.all (fun x => decide (decode cX11_seed x.1 = .ok (x.2.1, x.2.2.1)) && zOkI 11 3 x.2) = true := by decide +kernel
theorem zkX11_undo : zcX11_undo.all (fun x => decide (decode cX11_undo x.1 = .ok (x.2.1, x.2.2.1)) && zOkI 11 2 x.2) = true := by decide +kernel
theorem zkX11_image : zcX11_image.all (fun x => decide (decode cX11_image x.1 = .ok (x.2.1, x.2.2.1)) && zOkI 11 1 x.2) = true := by decide +kernel
theorem zkX11_back : zcX11_back.all (fun x => decide (decode cX11_back x.1 = .ok (x.2.1, x.2.2.1)) && zOkI 11 1 x.2) = true := by decide +kernel
theorem zkX11_count_0 : zcX11_count_0.all (fun x => decide (decode cX11_count x.1 = .ok (x.2.1, x.2.2.1)) && zOkI 11 2 x.2) = true := by decide +kernel
theorem zkX11_count_1 : zcX11_count_1.all (fun x => decide (decode cX11_count x.1 = .ok (x.2.1, x.2.2.1)) && zOkI 11 2 x.2) = true := by decide +kernel
theorem zkX11_count : zcX11_count.all (fun x => decide (decode cX11_count x.1 = .ok (x.2.1, x.2.2.1)) && zOkI 11 2 x.2) = true := (List.all_append.trans (by rw [zkX11_count_0]; exact zkX11_count_1))
theorem zkX11_needStep : zcX11_needStep.all (fun x => decide (decode cX11_needStep x.1 = .ok (x.2.1, x.2.2.1)) && zOkI 11 2 x.2) = true := by decide +kernel
theorem zkX11_needCorner : zcX11_needCorner.all (fun x => decide (decode cX11_needCorner x.1 = .ok (x.2.1, x.2.2.1)) && zOkI 11 1 x.2) = true := by decide +kernel
theorem zkX11_needKind : zcX11_needKind.all (fun x => decide (decode cX11_needKind x.1 = .ok (x.2.1, x.2.2.1)) && zOkI 11 1 x.2) = true := by decide +kernel
theorem zkX11_needWeekday : zcX11_needWeekday.all (fun x => decide (decode cX11_needWeekday x.1 = .ok (x.2.1, x.2.2.1)) && zOkI 11 1 x.2) = true := by decide +kernel
theorem zkX11_needTwo : zcX11_needTwo.all (fun x => decide (decode cX11_needTwo x.1 = .ok (x.2.1, x.2.2.1)) && zOkI 11 2 x.2) = true := by decide +kernel
theorem zkX11_needDays : zcX11_needDays.all (fun x => decide (decode cX11_needDays x.1 = .ok (x.2.1, x.2.2.1)) && zOkI 11 1 x.2) = true := by decide +kernel
theorem zkX11_orNone : zcX11_orNone.all (fun x => decide (decode cX11_orNone x.1 = .ok (x.2.1, x.2.2.1)) && zOkI 11 1 x.2) = true := by decide +kernel
theorem zkX11_everyStep : zcX11_everyStep.all (fun x => decide (decode cX11_everyStep x.1 = .ok (x.2.1, x.2.2.1)) && zOkI 11 1 x.2) = true := by decide +kernel
theorem zkX11_remember : zcX11_remember.all (fun x => decide (decode cX11_remember x.1 = .ok (x.2.1, x.2.2.1)) && zOkI 11 1 x.2) = true := by decide +kernel
theorem zkX11_tell : zcX11_tell.all (fun x => decide (decode cX11_tell x.1 = .ok (x.2.1, x.2.2.1)) && zOkI 11 5 x.2) = true := by decide +kernel
theorem zkX11_shareOf : zcX11_shareOf.all (fun x => decide (decode cX11_shareOf x.1 = .ok (x.2.1, x.2.2.1)) && zOkI 11 3 x.2) = true := by decide +kernel
theorem zkX11_outerOf : zcX11_outerOf.all (fun x => decide (decode cX11_outerOf x.1 = .ok (x.2.1, x.2.2.1)) && zOkI 11 6 x.2) = true := by decide +kernel
theorem zkX11_farToAll : zcX11_farToAll.all (fun x => decide (decode cX11_farToAll x.1 = .ok (x.2.1, x.2.2.1)) && zOkI 11 4 x.2) = true := by decide +kernel
theorem zkX11_reachedSteps : zcX11_reachedSteps.all (fun x => decide (decode cX11_reachedSteps x.1 = .ok (x.2.1, x.2.2.1)) && zOkI 11 7 x.2) = true := by decide +kernel
theorem zkX11_mostOwed : zcX11_mostOwed.all (fun x => decide (decode cX11_mostOwed x.1 = .ok (x.2.1, x.2.2.1)) && zOkI 11 5 x.2) = true := by decide +kernel
theorem zkX11_has : zcX11_has.all (fun x => decide (decode cX11_has x.1 = .ok (x.2.1, x.2.2.1)) && zOkI 11 8 x.2) = true := by decide +kernel
theorem zkX12_thrown : zcX12_thrown.all (fun x => decide (decode cX12_thrown x.1 = .ok (x.2.1, x.2.2.1)) && zOkI 12 1 x.2) = true := by decide +kernel
theorem zkX12_throwsIf : zcX12_throwsIf.all (fun x => decide (decode cX12_throwsIf x.1 = .ok (x.2.1, x.2.2.1)) && zOkI 12 3 x.2) = true := by decide +kernel
theorem zkX12_in : zcX12_in.all (fun x => decide (decode cX12_in x.1 = .ok (x.2.1, x.2.2.1)) && zOkI 12 3 x.2) = true := by decide +kernel
theorem zkX12_has : zcX12_has.all (fun x => decide (decode cX12_has x.1 = .ok (x.2.1, x.2.2.1)) && zOkI 12 2 x.2) = true := by decide +kernel
theorem zkX12_image : zcX12_image.all (fun x => decide (decode cX12_image x.1 = .ok (x.2.1, x.2.2.1)) && zOkI 12 2 x.2) = true := by decide +kernel
theorem zkX12_back : zcX12_back.all (fun x => decide (decode cX12_back x.1 = .ok (x.2.1, x.2.2.1)) && zOkI 12 2 x.2) = true := by decide +kernel
theorem zkX12_remembers : zcX12_remembers.all (fun x => decide (decode cX12_remembers x.1 = .ok (x.2.1, x.2.2.1)) && zOkI 12 2 x.2) = true := by decide +kernel
theorem zkX12_undo : zcX12_undo.all (fun x => decide (decode cX12_undo x.1 = .ok (x.2.1, x.2.2.1)) && zOkI 12 2 x.2) = true := by decide +kernel
theorem zkX12_steps : zcX12_steps.all (fun x => decide (decode cX12_steps x.1 = .ok (x.2.1, x.2.2.1)) && zOkI 12 1 x.2) = true := by decide +kernel
theorem zkX12_allSteps : zcX12_allSteps.all (fun x => decide (decode cX12_allSteps x.1 = .ok (x.2.1, x.2.2.1)) && zOkI 12 1 x.2) = true := by decide +kernel
theorem zkX12_at : zcX12_at.all (fun x => decide (decode cX12_at x.1 = .ok (x.2.1, x.2.2.1)) && zOkI 12 2 x.2) = true := by decide +kernel
theorem zkX12_of : zcX12_of.all (fun x => decide (decode cX12_of x.1 = .ok (x.2.1, x.2.2.1)) && zOkI 12 3 x.2) = true := by decide +kernel
theorem zkX12_inRound : zcX12_inRound.all (fun x => decide (decode cX12_inRound x.1 = .ok (x.2.1, x.2.2.1)) && zOkI 12 2 x.2) = true := by decide +kernel
theorem zkX12_placeOf : zcX12_placeOf.all (fun x => decide (decode cX12_placeOf x.1 = .ok (x.2.1, x.2.2.1)) && zOkI 12 3 x.2) = true := by decide +kernel
theorem zkX12_roadAt : zcX12_roadAt.all (fun x => decide (decode cX12_roadAt x.1 = .ok (x.2.1, x.2.2.1)) && zOkI 12 2 x.2) = true := by decide +kernel
theorem zkX12_noStep : zcX12_noStep.all (fun x => decide (decode cX12_noStep x.1 = .ok (x.2.1, x.2.2.1)) && zOkI 12 2 x.2) = true := by decide +kernel
theorem zkX12_noCorner : zcX12_noCorner.all (fun x => decide (decode cX12_noCorner x.1 = .ok (x.2.1, x.2.2.1)) && zOkI 12 1 x.2) = true := by decide +kernel
theorem zkX12_drawn : zcX12_drawn.all (fun x => decide (decode cX12_drawn x.1 = .ok (x.2.1, x.2.2.1)) && zOkI 12 2 x.2) = true := by decide +kernel
theorem zkX12_farOf : zcX12_farOf.all (fun x => decide (decode cX12_farOf x.1 = .ok (x.2.1, x.2.2.1)) && zOkI 12 3 x.2) = true := by decide +kernel
theorem zkX12_laysFars_0 : zcX12_laysFars_0.all (fun x => decide (decode cX12_laysFars x.1 = .ok (x.2.1, x.2.2.1)) && zOkI 12 4 x.2) = true := by decide +kernel
theorem zkX12_laysFars_1 : zcX12_laysFars_1.all (fun x => decide (decode cX12_laysFars x.1 = .ok (x.2.1, x.2.2.1)) && zOkI 12 4 x.2) = true := by decide +kernel
theorem zkX12_laysFars : zcX12_laysFars.all (fun x => decide (decode cX12_laysFars x.1 = .ok (x.2.1, x.2.2.1)) && zOkI 12 4 x.2) = true := (List.all_append.trans (by rw [zkX12_laysFars_0]; exact zkX12_laysFars_1))
theorem zkX12_farBetween : zcX12_farBetween.all (fun x => decide (decode cX12_farBetween x.1 = .ok (x.2.1, x.2.2.1)) && zOkI 12 3 x.2) = true := by decide +kernel
theorem zkX12_farHome : zcX12_farHome.all (fun x => decide (decode cX12_farHome x.1 = .ok (x.2.1, x.2.2.1)) && zOkI 12 2 x.2) = true := by decide +kernel
theorem zkX12_feed_0 : zcX12_feed_0.all (fun x => decide (decode cX12_feed x.1 = .ok (x.2.1, x.2.2.1)) && zOkI 12 7 x.2) = true := by decide +kernel
theorem zkX12_feed_1 : zcX12_feed_1.all (fun x => decide (decode cX12_feed x.1 = .ok (x.2.1, x.2.2.1)) && zOkI 12 7 x.2) = true := by decide +kernel
theorem zkX12_feed : zcX12_feed.all (fun x => decide (decode cX12_feed x.1 = .ok (x.2.1, x.2.2.1)) && zOkI 12 7 x.2) = true := (List.all_append.trans (by rw [zkX12_feed_0]; exact zkX12_feed_1))
theorem zkX12_end : zcX12_end.all (fun x => decide (decode cX12_end x.1 = .ok (x.2.1, x.2.2.1)) && zOkI 12 2 x.2) = true := by decide +kernel
theorem zkX12_isAt : zcX12_isAt.all (fun x => decide (decode cX12_isAt x.1 = .ok (x.2.1, x.2.2.1)) && zOkI 12 3 x.2) = true := by decide +kernel
theorem zkX12_blanks : zcX12_blanks.all (fun x => decide (decode cX12_blanks x.1 = .ok (x.2.1, x.2.2.1)) && zOkI 12 1 x.2) = true := by decide +kernel
theorem zkX12_letters : zcX12_letters.all (fun x => decide (decode cX12_letters x.1 = .ok (x.2.1, x.2.2.1)) && zOkI 12 1 x.2) = true := by decide +kernel
theorem zkX12_isWord : zcX12_isWord.all (fun x => decide (decode cX12_isWord x.1 = .ok (x.2.1, x.2.2.1)) && zOkI 12 4 x.2) = true := by decide +kernel
theorem zkX12_passes : zcX12_passes.all (fun x => decide (decode cX12_passes x.1 = .ok (x.2.1, x.2.2.1)) && zOkI 12 2 x.2) = true := by decide +kernel
theorem zkX12_sign : zcX12_sign.all (fun x => decide (decode cX12_sign x.1 = .ok (x.2.1, x.2.2.1)) && zOkI 12 2 x.2) = true := by decide +kernel
theorem zkX12_number : zcX12_number.all (fun x => decide (decode cX12_number x.1 = .ok (x.2.1, x.2.2.1)) && zOkI 12 4 x.2) = true := by decide +kernel
theorem zkX12_after : zcX12_after.all (fun x => decide (decode cX12_after x.1 = .ok (x.2.1, x.2.2.1)) && zOkI 12 4 x.2) = true := by decide +kernel
theorem zkX12_told : zcX12_told.all (fun x => decide (decode cX12_told x.1 = .ok (x.2.1, x.2.2.1)) && zOkI 12 6 x.2) = true := by decide +kernel
theorem zkX12_fault : zcX12_fault.all (fun x => decide (decode cX12_fault x.1 = .ok (x.2.1, x.2.2.1)) && zOkI 12 1 x.2) = true := by decide +kernel
theorem zkX12_uses : zcX12_uses.all (fun x => decide (decode cX12_uses x.1 = .ok (x.2.1, x.2.2.1)) && zOkI 12 1 x.2) = true := by decide +kernel
theorem zkX12_readNumber : zcX12_readNumber.all (fun x => decide (decode cX12_readNumber x.1 = .ok (x.2.1, x.2.2.1)) && zOkI 12 5 x.2) = true := by decide +kernel
theorem zkX12_readStep_0 : zcX12_readStep_0.all (fun x => decide (decode cX12_readStep x.1 = .ok (x.2.1, x.2.2.1)) && zOkI 12 8 x.2) = true := by decide +kernel
theorem zkX12_readStep_1 : zcX12_readStep_1.all (fun x => decide (decode cX12_readStep x.1 = .ok (x.2.1, x.2.2.1)) && zOkI 12 8 x.2) = true := by decide +kernel
theorem zkX12_readStep_2 : zcX12_readStep_2.all (fun x => decide (decode cX12_readStep x.1 = .ok (x.2.1, x.2.2.1)) && zOkI 12 8 x.2) = true := by decide +kernel
theorem zkX12_readStep : zcX12_readStep.all (fun x => decide (decode cX12_readStep x.1 = .ok (x.2.1, x.2.2.1)) && zOkI 12 8 x.2) = true := (List.all_append.trans (by rw [zkX12_readStep_0]; exact (List.all_append.trans (by rw [zkX12_readStep_1]; exact zkX12_readStep_2))))
theorem zkX12_readRoad : zcX12_readRoad.all (fun x => decide (decode cX12_readRoad x.1 = .ok (x.2.1, x.2.2.1)) && zOkI 12 4 x.2) = true := by decide +kernel
theorem zkX12_readSuburbLine_0 : zcX12_readSuburbLine_0.all (fun x => decide (decode cX12_readSuburbLine x.1 = .ok (x.2.1, x.2.2.1)) && zOkI 12 1 x.2) = true := by decide +kernel
theorem zkX12_readSuburbLine_1 : zcX12_readSuburbLine_1.all (fun x => decide (decode cX12_readSuburbLine x.1 = .ok (x.2.1, x.2.2.1)) && zOkI 12 1 x.2) = true := by decide +kernel
theorem zkX12_readSuburbLine : zcX12_readSuburbLine.all (fun x => decide (decode cX12_readSuburbLine x.1 = .ok (x.2.1, x.2.2.1)) && zOkI 12 1 x.2) = true := (List.all_append.trans (by rw [zkX12_readSuburbLine_0]; exact zkX12_readSuburbLine_1))
theorem zkX12_emits : zcX12_emits.all (fun x => decide (decode cX12_emits x.1 = .ok (x.2.1, x.2.2.1)) && zOkI 12 3 x.2) = true := by decide +kernel
theorem zkX12_wordOfPart : zcX12_wordOfPart.all (fun x => decide (decode cX12_wordOfPart x.1 = .ok (x.2.1, x.2.2.1)) && zOkI 12 1 x.2) = true := by decide +kernel
theorem zkX12_readPart : zcX12_readPart.all (fun x => decide (decode cX12_readPart x.1 = .ok (x.2.1, x.2.2.1)) && zOkI 12 3 x.2) = true := by decide +kernel
theorem zkX12_readSum : zcX12_readSum.all (fun x => decide (decode cX12_readSum x.1 = .ok (x.2.1, x.2.2.1)) && zOkI 12 1 x.2) = true := by decide +kernel
theorem zkX12_readTag : zcX12_readTag.all (fun x => decide (decode cX12_readTag x.1 = .ok (x.2.1, x.2.2.1)) && zOkI 12 2 x.2) = true := by decide +kernel
theorem zkX12_readAtom_0 : zcX12_readAtom_0.all (fun x => decide (decode cX12_readAtom x.1 = .ok (x.2.1, x.2.2.1)) && zOkI 12 2 x.2) = true := by decide +kernel
theorem zkX12_readAtom_1 : zcX12_readAtom_1.all (fun x => decide (decode cX12_readAtom x.1 = .ok (x.2.1, x.2.2.1)) && zOkI 12 2 x.2) = true := by decide +kernel
theorem zkX12_readAtom : zcX12_readAtom.all (fun x => decide (decode cX12_readAtom x.1 = .ok (x.2.1, x.2.2.1)) && zOkI 12 2 x.2) = true := (List.all_append.trans (by rw [zkX12_readAtom_0]; exact zkX12_readAtom_1))
theorem zkX12_readAllOf : zcX12_readAllOf.all (fun x => decide (decode cX12_readAllOf x.1 = .ok (x.2.1, x.2.2.1)) && zOkI 12 1 x.2) = true := by decide +kernel
theorem zkX12_readCond : zcX12_readCond.all (fun x => decide (decode cX12_readCond x.1 = .ok (x.2.1, x.2.2.1)) && zOkI 12 1 x.2) = true := by decide +kernel
theorem zkX12_readLawLine_0 : zcX12_readLawLine_0.all (fun x => decide (decode cX12_readLawLine x.1 = .ok (x.2.1, x.2.2.1)) && zOkI 12 3 x.2) = true := by decide +kernel
theorem zkX12_readLawLine_1 : zcX12_readLawLine_1.all (fun x => decide (decode cX12_readLawLine x.1 = .ok (x.2.1, x.2.2.1)) && zOkI 12 3 x.2) = true := by decide +kernel
theorem zkX12_readLawLine : zcX12_readLawLine.all (fun x => decide (decode cX12_readLawLine x.1 = .ok (x.2.1, x.2.2.1)) && zOkI 12 3 x.2) = true := (List.all_append.trans (by rw [zkX12_readLawLine_0]; exact zkX12_readLawLine_1))
theorem zkX12_readLine : zcX12_readLine.all (fun x => decide (decode cX12_readLine x.1 = .ok (x.2.1, x.2.2.1)) && zOkI 12 3 x.2) = true := by decide +kernel
theorem zkX12_readAll : zcX12_readAll.all (fun x => decide (decode cX12_readAll x.1 = .ok (x.2.1, x.2.2.1)) && zOkI 12 3 x.2) = true := by decide +kernel
theorem zkX12_suburb_0 : zcX12_suburb_0.all (fun x => decide (decode cX12_suburb x.1 = .ok (x.2.1, x.2.2.1)) && zOkI 12 3 x.2) = true := by decide +kernel
theorem zkX12_suburb_1 : zcX12_suburb_1.all (fun x => decide (decode cX12_suburb x.1 = .ok (x.2.1, x.2.2.1)) && zOkI 12 3 x.2) = true := by decide +kernel
theorem zkX12_suburb : zcX12_suburb.all (fun x => decide (decode cX12_suburb x.1 = .ok (x.2.1, x.2.2.1)) && zOkI 12 3 x.2) = true := (List.all_append.trans (by rw [zkX12_suburb_0]; exact zkX12_suburb_1))
theorem zkX12_law : zcX12_law.all (fun x => decide (decode cX12_law x.1 = .ok (x.2.1, x.2.2.1)) && zOkI 12 3 x.2) = true := by decide +kernel
theorem zkX12_weekday : zcX12_weekday.all (fun x => decide (decode cX12_weekday x.1 = .ok (x.2.1, x.2.2.1)) && zOkI 12 1 x.2) = true := by decide +kernel
theorem zkX12_isNoted : zcX12_isNoted.all (fun x => decide (decode cX12_isNoted x.1 = .ok (x.2.1, x.2.2.1)) && zOkI 12 2 x.2) = true := by decide +kernel
theorem zkX12_factOf : zcX12_factOf.all (fun x => decide (decode cX12_factOf x.1 = .ok (x.2.1, x.2.2.1)) && zOkI 12 4 x.2) = true := by decide +kernel
theorem zkX12_holdsLine_0 : zcX12_holdsLine_0.all (fun x => decide (decode cX12_holdsLine x.1 = .ok (x.2.1, x.2.2.1)) && zOkI 12 10 x.2) = true := by decide +kernel
theorem zkX12_holdsLine_1 : zcX12_holdsLine_1.all (fun x => decide (decode cX12_holdsLine x.1 = .ok (x.2.1, x.2.2.1)) && zOkI 12 10 x.2) = true := by decide +kernel
theorem zkX12_holdsLine_2 : zcX12_holdsLine_2.all (fun x => decide (decode cX12_holdsLine x.1 = .ok (x.2.1, x.2.2.1)) && zOkI 12 10 x.2) = true := by decide +kernel
theorem zkX12_holdsLine : zcX12_holdsLine.all (fun x => decide (decode cX12_holdsLine x.1 = .ok (x.2.1, x.2.2.1)) && zOkI 12 10 x.2) = true := (List.all_append.trans (by rw [zkX12_holdsLine_0]; exact (List.all_append.trans (by rw [zkX12_holdsLine_1]; exact zkX12_holdsLine_2))))
theorem zkX12_byLaw_0 : zcX12_byLaw_0.all (fun x => decide (decode cX12_byLaw x.1 = .ok (x.2.1, x.2.2.1)) && zOkI 12 5 x.2) = true := by decide +kernel
theorem zkX12_byLaw_1 : zcX12_byLaw_1.all (fun x => decide (decode cX12_byLaw x.1 = .ok (x.2.1, x.2.2.1)) && zOkI 12 5 x.2) = true := by decide +kernel
theorem zkX12_byLaw : zcX12_byLaw.all (fun x => decide (decode cX12_byLaw x.1 = .ok (x.2.1, x.2.2.1)) && zOkI 12 5 x.2) = true := (List.all_append.trans (by rw [zkX12_byLaw_0]; exact zkX12_byLaw_1))
theorem zkX12_sumOf : zcX12_sumOf.all (fun x => decide (decode cX12_sumOf x.1 = .ok (x.2.1, x.2.2.1)) && zOkI 12 4 x.2) = true := by decide +kernel
theorem zkX12_shareOf : zcX12_shareOf.all (fun x => decide (decode cX12_shareOf x.1 = .ok (x.2.1, x.2.2.1)) && zOkI 12 3 x.2) = true := by decide +kernel
theorem zkX12_outerOf : zcX12_outerOf.all (fun x => decide (decode cX12_outerOf x.1 = .ok (x.2.1, x.2.2.1)) && zOkI 12 4 x.2) = true := by decide +kernel
theorem zkX12_step_0 : zcX12_step_0.all (fun x => decide (decode cX12_step x.1 = .ok (x.2.1, x.2.2.1)) && zOkI 12 3 x.2) = true := by decide +kernel
theorem zkX12_step_1 : zcX12_step_1.all (fun x => decide (decode cX12_step x.1 = .ok (x.2.1, x.2.2.1)) && zOkI 12 3 x.2) = true := by decide +kernel
theorem zkX12_step : zcX12_step.all (fun x => decide (decode cX12_step x.1 = .ok (x.2.1, x.2.2.1)) && zOkI 12 3 x.2) = true := (List.all_append.trans (by rw [zkX12_step_0]; exact zkX12_step_1))
theorem zkX12_orNone : zcX12_orNone.all (fun x => decide (decode cX12_orNone x.1 = .ok (x.2.1, x.2.2.1)) && zOkI 12 1 x.2) = true := by decide +kernel
theorem zkX12_far : zcX12_far.all (fun x => decide (decode cX12_far x.1 = .ok (x.2.1, x.2.2.1)) && zOkI 12 3 x.2) = true := by decide +kernel
theorem zkX12_road : zcX12_road.all (fun x => decide (decode cX12_road x.1 = .ok (x.2.1, x.2.2.1)) && zOkI 12 3 x.2) = true := by decide +kernel
theorem zkX12_noPlace : zcX12_noPlace.all (fun x => decide (decode cX12_noPlace x.1 = .ok (x.2.1, x.2.2.1)) && zOkI 12 2 x.2) = true := by decide +kernel
theorem zkX12_round : zcX12_round.all (fun x => decide (decode cX12_round x.1 = .ok (x.2.1, x.2.2.1)) && zOkI 12 2 x.2) = true := by decide +kernel
theorem zkX12_tells : zcX12_tells.all (fun x => decide (decode cX12_tells x.1 = .ok (x.2.1, x.2.2.1)) && zOkI 12 5 x.2) = true := by decide +kernel
theorem zkX12_adds : zcX12_adds.all (fun x => decide (decode cX12_adds x.1 = .ok (x.2.1, x.2.2.1)) && zOkI 12 5 x.2) = true := by decide +kernel
theorem zkX12_getsOne : zcX12_getsOne.all (fun x => decide (decode cX12_getsOne x.1 = .ok (x.2.1, x.2.2.1)) && zOkI 12 3 x.2) = true := by decide +kernel
theorem zkX12_setsOut : zcX12_setsOut.all (fun x => decide (decode cX12_setsOut x.1 = .ok (x.2.1, x.2.2.1)) && zOkI 12 2 x.2) = true := by decide +kernel
theorem zkX12_goesTo_0 : zcX12_goesTo_0.all (fun x => decide (decode cX12_goesTo x.1 = .ok (x.2.1, x.2.2.1)) && zOkI 12 4 x.2) = true := by decide +kernel
theorem zkX12_goesTo_1 : zcX12_goesTo_1.all (fun x => decide (decode cX12_goesTo x.1 = .ok (x.2.1, x.2.2.1)) && zOkI 12 4 x.2) = true := by decide +kernel
theorem zkX12_goesTo : zcX12_goesTo.all (fun x => decide (decode cX12_goesTo x.1 = .ok (x.2.1, x.2.2.1)) && zOkI 12 4 x.2) = true := (List.all_append.trans (by rw [zkX12_goesTo_0]; exact zkX12_goesTo_1))
theorem zkX12_rides : zcX12_rides.all (fun x => decide (decode cX12_rides x.1 = .ok (x.2.1, x.2.2.1)) && zOkI 12 3 x.2) = true := by decide +kernel
theorem zkX12_delivers : zcX12_delivers.all (fun x => decide (decode cX12_delivers x.1 = .ok (x.2.1, x.2.2.1)) && zOkI 12 6 x.2) = true := by decide +kernel
theorem zkX12_isPecked : zcX12_isPecked.all (fun x => decide (decode cX12_isPecked x.1 = .ok (x.2.1, x.2.2.1)) && zOkI 12 2 x.2) = true := by decide +kernel
theorem zkX12_drinks : zcX12_drinks.all (fun x => decide (decode cX12_drinks x.1 = .ok (x.2.1, x.2.2.1)) && zOkI 12 4 x.2) = true := by decide +kernel
theorem zkX12_turnsOld : zcX12_turnsOld.all (fun x => decide (decode cX12_turnsOld x.1 = .ok (x.2.1, x.2.2.1)) && zOkI 12 2 x.2) = true := by decide +kernel
theorem zkX12_oneMorning : zcX12_oneMorning.all (fun x => decide (decode cX12_oneMorning x.1 = .ok (x.2.1, x.2.2.1)) && zOkI 12 4 x.2) = true := by decide +kernel
theorem zkX12_goesOn : zcX12_goesOn.all (fun x => decide (decode cX12_goesOn x.1 = .ok (x.2.1, x.2.2.1)) && zOkI 12 5 x.2) = true := by decide +kernel
theorem zkX12_keepsAll : zcX12_keepsAll.all (fun x => decide (decode cX12_keepsAll x.1 = .ok (x.2.1, x.2.2.1)) && zOkI 12 2 x.2) = true := by decide +kernel
theorem zkX12_bringsBack : zcX12_bringsBack.all (fun x => decide (decode cX12_bringsBack x.1 = .ok (x.2.1, x.2.2.1)) && zOkI 12 2 x.2) = true := by decide +kernel
theorem zkX12_mornings : zcX12_mornings.all (fun x => decide (decode cX12_mornings x.1 = .ok (x.2.1, x.2.2.1)) && zOkI 12 2 x.2) = true := by decide +kernel
theorem zkX12_pay : zcX12_pay.all (fun x => decide (decode cX12_pay x.1 = .ok (x.2.1, x.2.2.1)) && zOkI 12 3 x.2) = true := by decide +kernel
theorem zkX12_isChanged : zcX12_isChanged.all (fun x => decide (decode cX12_isChanged x.1 = .ok (x.2.1, x.2.2.1)) && zOkI 12 5 x.2) = true := by decide +kernel
theorem zkX12_note : zcX12_note.all (fun x => decide (decode cX12_note x.1 = .ok (x.2.1, x.2.2.1)) && zOkI 12 3 x.2) = true := by decide +kernel
theorem zkX12_kind : zcX12_kind.all (fun x => decide (decode cX12_kind x.1 = .ok (x.2.1, x.2.2.1)) && zOkI 12 3 x.2) = true := by decide +kernel
theorem zkX12_changes : zcX12_changes.all (fun x => decide (decode cX12_changes x.1 = .ok (x.2.1, x.2.2.1)) && zOkI 12 4 x.2) = true := by decide +kernel
theorem zkX12_change : zcX12_change.all (fun x => decide (decode cX12_change x.1 = .ok (x.2.1, x.2.2.1)) && zOkI 12 3 x.2) = true := by decide +kernel
theorem zkX12_charge : zcX12_charge.all (fun x => decide (decode cX12_charge x.1 = .ok (x.2.1, x.2.2.1)) && zOkI 12 3 x.2) = true := by decide +kernel
theorem zkX12_crates : zcX12_crates.all (fun x => decide (decode cX12_crates x.1 = .ok (x.2.1, x.2.2.1)) && zOkI 12 3 x.2) = true := by decide +kernel
theorem zkX12_lend_0 : zcX12_lend_0.all (fun x => decide (decode cX12_lend x.1 = .ok (x.2.1, x.2.2.1)) && zOkI 12 4 x.2) = true := by decide +kernel
theorem zkX12_lend_1 : zcX12_lend_1.all (fun x => decide (decode cX12_lend x.1 = .ok (x.2.1, x.2.2.1)) && zOkI 12 4 x.2) = true := by decide +kernel
theorem zkX12_lend : zcX12_lend.all (fun x => decide (decode cX12_lend x.1 = .ok (x.2.1, x.2.2.1)) && zOkI 12 4 x.2) = true := (List.all_append.trans (by rw [zkX12_lend_0]; exact zkX12_lend_1))
theorem zkX12_leaves : zcX12_leaves.all (fun x => decide (decode cX12_leaves x.1 = .ok (x.2.1, x.2.2.1)) && zOkI 12 1 x.2) = true := by decide +kernel
theorem zkX12_passed : zcX12_passed.all (fun x => decide (decode cX12_passed x.1 = .ok (x.2.1, x.2.2.1)) && zOkI 12 1 x.2) = true := by decide +kernel
theorem zkX12_home : zcX12_home.all (fun x => decide (decode cX12_home x.1 = .ok (x.2.1, x.2.2.1)) && zOkI 12 1 x.2) = true := by decide +kernel
theorem zkX12_wayNow : zcX12_wayNow.all (fun x => decide (decode cX12_wayNow x.1 = .ok (x.2.1, x.2.2.1)) && zOkI 12 4 x.2) = true := by decide +kernel
theorem zkX12_way : zcX12_way.all (fun x => decide (decode cX12_way x.1 = .ok (x.2.1, x.2.2.1)) && zOkI 12 1 x.2) = true := by decide +kernel
theorem zkX12_restAt : zcX12_restAt.all (fun x => decide (decode cX12_restAt x.1 = .ok (x.2.1, x.2.2.1)) && zOkI 12 2 x.2) = true := by decide +kernel
theorem zkX12_farFrom : zcX12_farFrom.all (fun x => decide (decode cX12_farFrom x.1 = .ok (x.2.1, x.2.2.1)) && zOkI 12 3 x.2) = true := by decide +kernel
theorem zkX12_restBy : zcX12_restBy.all (fun x => decide (decode cX12_restBy x.1 = .ok (x.2.1, x.2.2.1)) && zOkI 12 4 x.2) = true := by decide +kernel
theorem zkX12_laysRest_0 : zcX12_laysRest_0.all (fun x => decide (decode cX12_laysRest x.1 = .ok (x.2.1, x.2.2.1)) && zOkI 12 5 x.2) = true := by decide +kernel
theorem zkX12_laysRest_1 : zcX12_laysRest_1.all (fun x => decide (decode cX12_laysRest x.1 = .ok (x.2.1, x.2.2.1)) && zOkI 12 5 x.2) = true := by decide +kernel
theorem zkX12_laysRest : zcX12_laysRest.all (fun x => decide (decode cX12_laysRest x.1 = .ok (x.2.1, x.2.2.1)) && zOkI 12 5 x.2) = true := (List.all_append.trans (by rw [zkX12_laysRest_0]; exact zkX12_laysRest_1))
theorem zkX12_shortest_0 : zcX12_shortest_0.all (fun x => decide (decode cX12_shortest x.1 = .ok (x.2.1, x.2.2.1)) && zOkI 12 7 x.2) = true := by decide +kernel
theorem zkX12_shortest_1 : zcX12_shortest_1.all (fun x => decide (decode cX12_shortest x.1 = .ok (x.2.1, x.2.2.1)) && zOkI 12 7 x.2) = true := by decide +kernel
theorem zkX12_shortest : zcX12_shortest.all (fun x => decide (decode cX12_shortest x.1 = .ok (x.2.1, x.2.2.1)) && zOkI 12 7 x.2) = true := (List.all_append.trans (by rw [zkX12_shortest_0]; exact zkX12_shortest_1))
theorem zkX12_most : zcX12_most.all (fun x => decide (decode cX12_most x.1 = .ok (x.2.1, x.2.2.1)) && zOkI 12 3 x.2) = true := by decide +kernel
theorem zkX12_least : zcX12_least.all (fun x => decide (decode cX12_least x.1 = .ok (x.2.1, x.2.2.1)) && zOkI 12 2 x.2) = true := by decide +kernel
theorem zkX12_cross : zcX12_cross.all (fun x => decide (decode cX12_cross x.1 = .ok (x.2.1, x.2.2.1)) && zOkI 12 4 x.2) = true := by decide +kernel
theorem zkX12_swap : zcX12_swap.all (fun x => decide (decode cX12_swap x.1 = .ok (x.2.1, x.2.2.1)) && zOkI 12 6 x.2) = true := by decide +kernel
theorem zkX12_dairy : zcX12_dairy.all (fun x => decide (decode cX12_dairy x.1 = .ok (x.2.1, x.2.2.1)) && zOkI 12 6 x.2) = true := by decide +kernel
theorem zkX12_reached_0 : zcX12_reached_0.all (fun x => decide (decode cX12_reached x.1 = .ok (x.2.1, x.2.2.1)) && zOkI 12 9 x.2) = true := by decide +kernel
theorem zkX12_reached_1 : zcX12_reached_1.all (fun x => decide (decode cX12_reached x.1 = .ok (x.2.1, x.2.2.1)) && zOkI 12 9 x.2) = true := by decide +kernel
theorem zkX12_reached : zcX12_reached.all (fun x => decide (decode cX12_reached x.1 = .ok (x.2.1, x.2.2.1)) && zOkI 12 9 x.2) = true := (List.all_append.trans (by rw [zkX12_reached_0]; exact zkX12_reached_1))
theorem zkX12_stepsIn : zcX12_stepsIn.all (fun x => decide (decode cX12_stepsIn x.1 = .ok (x.2.1, x.2.2.1)) && zOkI 12 4 x.2) = true := by decide +kernel
theorem zkX12_bridges : zcX12_bridges.all (fun x => decide (decode cX12_bridges x.1 = .ok (x.2.1, x.2.2.1)) && zOkI 12 5 x.2) = true := by decide +kernel
theorem zkX12_cut : zcX12_cut.all (fun x => decide (decode cX12_cut x.1 = .ok (x.2.1, x.2.2.1)) && zOkI 12 2 x.2) = true := by decide +kernel
theorem zkX12_noDays : zcX12_noDays.all (fun x => decide (decode cX12_noDays x.1 = .ok (x.2.1, x.2.2.1)) && zOkI 12 1 x.2) = true := by decide +kernel
theorem zkX12_dryOnes : zcX12_dryOnes.all (fun x => decide (decode cX12_dryOnes x.1 = .ok (x.2.1, x.2.2.1)) && zOkI 12 3 x.2) = true := by decide +kernel
theorem zkX12_dries : zcX12_dries.all (fun x => decide (decode cX12_dries x.1 = .ok (x.2.1, x.2.2.1)) && zOkI 12 4 x.2) = true := by decide +kernel
theorem zkX12_owes : zcX12_owes.all (fun x => decide (decode cX12_owes x.1 = .ok (x.2.1, x.2.2.1)) && zOkI 12 4 x.2) = true := by decide +kernel
theorem zkX12_pays : zcX12_pays.all (fun x => decide (decode cX12_pays x.1 = .ok (x.2.1, x.2.2.1)) && zOkI 12 4 x.2) = true := by decide +kernel
theorem zkX12_bottlesNow : zcX12_bottlesNow.all (fun x => decide (decode cX12_bottlesNow x.1 = .ok (x.2.1, x.2.2.1)) && zOkI 12 1 x.2) = true := by decide +kernel
theorem zkX12_holds : zcX12_holds.all (fun x => decide (decode cX12_holds x.1 = .ok (x.2.1, x.2.2.1)) && zOkI 12 3 x.2) = true := by decide +kernel
theorem zkX12_ahead : zcX12_ahead.all (fun x => decide (decode cX12_ahead x.1 = .ok (x.2.1, x.2.2.1)) && zOkI 12 5 x.2) = true := by decide +kernel
theorem zkX12_isSeen : zcX12_isSeen.all (fun x => decide (decode cX12_isSeen x.1 = .ok (x.2.1, x.2.2.1)) && zOkI 12 3 x.2) = true := by decide +kernel
theorem zkX12_laysGiven : zcX12_laysGiven.all (fun x => decide (decode cX12_laysGiven x.1 = .ok (x.2.1, x.2.2.1)) && zOkI 12 2 x.2) = true := by decide +kernel
theorem zkX12_fits : zcX12_fits.all (fun x => decide (decode cX12_fits x.1 = .ok (x.2.1, x.2.2.1)) && zOkI 12 4 x.2) = true := by decide +kernel
theorem zkX12_seen : zcX12_seen.all (fun x => decide (decode cX12_seen x.1 = .ok (x.2.1, x.2.2.1)) && zOkI 12 5 x.2) = true := by decide +kernel
theorem zkX12_ask_0 : zcX12_ask_0.all (fun x => decide (decode cX12_ask x.1 = .ok (x.2.1, x.2.2.1)) && zOkI 12 7 x.2) = true := by decide +kernel
theorem zkX12_ask_1 : zcX12_ask_1.all (fun x => decide (decode cX12_ask x.1 = .ok (x.2.1, x.2.2.1)) && zOkI 12 7 x.2) = true := by decide +kernel
theorem zkX12_ask : zcX12_ask.all (fun x => decide (decode cX12_ask x.1 = .ok (x.2.1, x.2.2.1)) && zOkI 12 7 x.2) = true := (List.all_append.trans (by rw [zkX12_ask_0]; exact zkX12_ask_1))
theorem zkX12_firstOf : zcX12_firstOf.all (fun x => decide (decode cX12_firstOf x.1 = .ok (x.2.1, x.2.2.1)) && zOkI 12 1 x.2) = true := by decide +kernel
theorem zkX12_pairedBy : zcX12_pairedBy.all (fun x => decide (decode cX12_pairedBy x.1 = .ok (x.2.1, x.2.2.1)) && zOkI 12 5 x.2) = true := by decide +kernel
theorem zkX12_laysPaired : zcX12_laysPaired.all (fun x => decide (decode cX12_laysPaired x.1 = .ok (x.2.1, x.2.2.1)) && zOkI 12 4 x.2) = true := by decide +kernel
theorem zkX12_partnerOf : zcX12_partnerOf.all (fun x => decide (decode cX12_partnerOf x.1 = .ok (x.2.1, x.2.2.1)) && zOkI 12 5 x.2) = true := by decide +kernel
theorem zkX12_neighbours : zcX12_neighbours.all (fun x => decide (decode cX12_neighbours x.1 = .ok (x.2.1, x.2.2.1)) && zOkI 12 3 x.2) = true := by decide +kernel
theorem zkX12_neighbour : zcX12_neighbour.all (fun x => decide (decode cX12_neighbour x.1 = .ok (x.2.1, x.2.2.1)) && zOkI 12 2 x.2) = true := by decide +kernel
theorem zkX12_gutter_0 : zcX12_gutter_0.all (fun x => decide (decode cX12_gutter x.1 = .ok (x.2.1, x.2.2.1)) && zOkI 12 6 x.2) = true := by decide +kernel
theorem zkX12_gutter_1 : zcX12_gutter_1.all (fun x => decide (decode cX12_gutter x.1 = .ok (x.2.1, x.2.2.1)) && zOkI 12 6 x.2) = true := by decide +kernel
theorem zkX12_gutter : zcX12_gutter.all (fun x => decide (decode cX12_gutter x.1 = .ok (x.2.1, x.2.2.1)) && zOkI 12 6 x.2) = true := (List.all_append.trans (by rw [zkX12_gutter_0]; exact zkX12_gutter_1))
theorem zkX12_hasBy : zcX12_hasBy.all (fun x => decide (decode cX12_hasBy x.1 = .ok (x.2.1, x.2.2.1)) && zOkI 12 5 x.2) = true := by decide +kernel
theorem zkX12_rests_0 : zcX12_rests_0.all (fun x => decide (decode cX12_rests x.1 = .ok (x.2.1, x.2.2.1)) && zOkI 12 7 x.2) = true := by decide +kernel
theorem zkX12_rests_1 : zcX12_rests_1.all (fun x => decide (decode cX12_rests x.1 = .ok (x.2.1, x.2.2.1)) && zOkI 12 7 x.2) = true := by decide +kernel
theorem zkX12_rests : zcX12_rests.all (fun x => decide (decode cX12_rests x.1 = .ok (x.2.1, x.2.2.1)) && zOkI 12 7 x.2) = true := (List.all_append.trans (by rw [zkX12_rests_0]; exact zkX12_rests_1))
theorem zkX12_thatHave : zcX12_thatHave.all (fun x => decide (decode cX12_thatHave x.1 = .ok (x.2.1, x.2.2.1)) && zOkI 12 5 x.2) = true := by decide +kernel
theorem zkX12_foil : zcX12_foil.all (fun x => decide (decode cX12_foil x.1 = .ok (x.2.1, x.2.2.1)) && zOkI 12 2 x.2) = true := by decide +kernel
theorem zkX12_dogs : zcX12_dogs.all (fun x => decide (decode cX12_dogs x.1 = .ok (x.2.1, x.2.2.1)) && zOkI 12 1 x.2) = true := by decide +kernel
theorem zkX12_noted : zcX12_noted.all (fun x => decide (decode cX12_noted x.1 = .ok (x.2.1, x.2.2.1)) && zOkI 12 2 x.2) = true := by decide +kernel
theorem zkX12_mostOf : zcX12_mostOf.all (fun x => decide (decode cX12_mostOf x.1 = .ok (x.2.1, x.2.2.1)) && zOkI 12 6 x.2) = true := by decide +kernel
theorem zkX12_thirsty : zcX12_thirsty.all (fun x => decide (decode cX12_thirsty x.1 = .ok (x.2.1, x.2.2.1)) && zOkI 12 1 x.2) = true := by decide +kernel
theorem zkX12_rich : zcX12_rich.all (fun x => decide (decode cX12_rich x.1 = .ok (x.2.1, x.2.2.1)) && zOkI 12 1 x.2) = true := by decide +kernel
theorem zkX12_odds : zcX12_odds.all (fun x => decide (decode cX12_odds x.1 = .ok (x.2.1, x.2.2.1)) && zOkI 12 6 x.2) = true := by decide +kernel
theorem zkX12_twins : zcX12_twins.all (fun x => decide (decode cX12_twins x.1 = .ok (x.2.1, x.2.2.1)) && zOkI 12 4 x.2) = true := by decide +kernel
theorem zkX12_trial : zcX12_trial.all (fun x => decide (decode cX12_trial x.1 = .ok (x.2.1, x.2.2.1)) && zOkI 12 4 x.2) = true := by decide +kernel
theorem zkX12_span : zcX12_span.all (fun x => decide (decode cX12_span x.1 = .ok (x.2.1, x.2.2.1)) && zOkI 12 6 x.2) = true := by decide +kernel
theorem zkX12_ofLog : zcX12_ofLog.all (fun x => decide (decode cX12_ofLog x.1 = .ok (x.2.1, x.2.2.1)) && zOkI 12 3 x.2) = true := by decide +kernel
theorem zkX12_led : zcX12_led.all (fun x => decide (decode cX12_led x.1 = .ok (x.2.1, x.2.2.1)) && zOkI 12 6 x.2) = true := by decide +kernel
theorem zkX12_log : zcX12_log.all (fun x => decide (decode cX12_log x.1 = .ok (x.2.1, x.2.2.1)) && zOkI 12 3 x.2) = true := by decide +kernel
theorem zkX12_seed : zcX12_seed.all (fun x => decide (decode cX12_seed x.1 = .ok (x.2.1, x.2.2.1)) && zOkI 12 3 x.2) = true := by decide +kernel
theorem zkX12_count_0 : zcX12_count_0.all (fun x => decide (decode cX12_count x.1 = .ok (x.2.1, x.2.2.1)) && zOkI 12 5 x.2) = true := by decide +kernel
theorem zkX12_count_1 : zcX12_count_1.all (fun x => decide (decode cX12_count x.1 = .ok (x.2.1, x.2.2.1)) && zOkI 12 5 x.2) = true := by decide +kernel
theorem zkX12_count : zcX12_count.all (fun x => decide (decode cX12_count x.1 = .ok (x.2.1, x.2.2.1)) && zOkI 12 5 x.2) = true := (List.all_append.trans (by rw [zkX12_count_0]; exact zkX12_count_1))
theorem zkJ6_numberOfTrailingZeros_0f7a4 : zcJ6_numberOfTrailingZeros_0f7a4.all (fun x => decide (decode cJ6_numberOfTrailingZeros_0f7a4 x.1 = .ok (x.2.1, x.2.2.1)) && zOkI 14 2 x.2) = true := by decide +kernel
theorem zkJ6_bitCount_0f7a4 : zcJ6_bitCount_0f7a4.all (fun x => decide (decode cJ6_bitCount_0f7a4 x.1 = .ok (x.2.1, x.2.2.1)) && zOkI 14 1 x.2) = true := by decide +kernel
theorem zkJ7_fill_53178 : zcJ7_fill_53178.all (fun x => decide (decode cJ7_fill_53178 x.1 = .ok (x.2.1, x.2.2.1)) && zOkI 15 4 x.2) = true := by decide +kernel
theorem zkL_suburb : zcL_suburb.all (fun x => decide (decode cL_suburb x.1 = .ok (x.2.1, x.2.2.1)) && zOkI 13 3 x.2) = true := by decide +kernel
theorem zkL_law : zcL_law.all (fun x => decide (decode cL_law x.1 = .ok (x.2.1, x.2.2.1)) && zOkI 13 3 x.2) = true := by decide +kernel
theorem zkL_step : zcL_step.all (fun x => decide (decode cL_step x.1 = .ok (x.2.1, x.2.2.1)) && zOkI 13 5 x.2) = true := by decide +kernel
theorem zkL_far : zcL_far.all (fun x => decide (decode cL_far x.1 = .ok (x.2.1, x.2.2.1)) && zOkI 13 5 x.2) = true := by decide +kernel
theorem zkL_road : zcL_road.all (fun x => decide (decode cL_road x.1 = .ok (x.2.1, x.2.2.1)) && zOkI 13 5 x.2) = true := by decide +kernel
theorem zkL_round : zcL_round.all (fun x => decide (decode cL_round x.1 = .ok (x.2.1, x.2.2.1)) && zOkI 13 4 x.2) = true := by decide +kernel
theorem zkL_mornings : zcL_mornings.all (fun x => decide (decode cL_mornings x.1 = .ok (x.2.1, x.2.2.1)) && zOkI 13 4 x.2) = true := by decide +kernel
theorem zkL_pay : zcL_pay.all (fun x => decide (decode cL_pay x.1 = .ok (x.2.1, x.2.2.1)) && zOkI 13 5 x.2) = true := by decide +kernel
theorem zkL_note : zcL_note.all (fun x => decide (decode cL_note x.1 = .ok (x.2.1, x.2.2.1)) && zOkI 13 5 x.2) = true := by decide +kernel
theorem zkL_kind : zcL_kind.all (fun x => decide (decode cL_kind x.1 = .ok (x.2.1, x.2.2.1)) && zOkI 13 5 x.2) = true := by decide +kernel
theorem zkL_change : zcL_change.all (fun x => decide (decode cL_change x.1 = .ok (x.2.1, x.2.2.1)) && zOkI 13 5 x.2) = true := by decide +kernel
theorem zkL_charge : zcL_charge.all (fun x => decide (decode cL_charge x.1 = .ok (x.2.1, x.2.2.1)) && zOkI 13 4 x.2) = true := by decide +kernel
theorem zkL_crates : zcL_crates.all (fun x => decide (decode cL_crates x.1 = .ok (x.2.1, x.2.2.1)) && zOkI 13 4 x.2) = true := by decide +kernel
theorem zkL_lend : zcL_lend.all (fun x => decide (decode cL_lend x.1 = .ok (x.2.1, x.2.2.1)) && zOkI 13 5 x.2) = true := by decide +kernel
theorem zkL_cut : zcL_cut.all (fun x => decide (decode cL_cut x.1 = .ok (x.2.1, x.2.2.1)) && zOkI 13 4 x.2) = true := by decide +kernel
theorem zkL_owes : zcL_owes.all (fun x => decide (decode cL_owes x.1 = .ok (x.2.1, x.2.2.1)) && zOkI 13 4 x.2) = true := by decide +kernel
theorem zkL_pays : zcL_pays.all (fun x => decide (decode cL_pays x.1 = .ok (x.2.1, x.2.2.1)) && zOkI 13 5 x.2) = true := by decide +kernel
theorem zkL_holds : zcL_holds.all (fun x => decide (decode cL_holds x.1 = .ok (x.2.1, x.2.2.1)) && zOkI 13 4 x.2) = true := by decide +kernel
theorem zkL_seen : zcL_seen.all (fun x => decide (decode cL_seen x.1 = .ok (x.2.1, x.2.2.1)) && zOkI 13 4 x.2) = true := by decide +kernel
theorem zkL_ask : zcL_ask.all (fun x => decide (decode cL_ask x.1 = .ok (x.2.1, x.2.2.1)) && zOkI 13 3 x.2) = true := by decide +kernel
theorem zkL_neighbour : zcL_neighbour.all (fun x => decide (decode cL_neighbour x.1 = .ok (x.2.1, x.2.2.1)) && zOkI 13 4 x.2) = true := by decide +kernel
theorem zkL_gutter : zcL_gutter.all (fun x => decide (decode cL_gutter x.1 = .ok (x.2.1, x.2.2.1)) && zOkI 13 5 x.2) = true := by decide +kernel
theorem zkL_rests : zcL_rests.all (fun x => decide (decode cL_rests x.1 = .ok (x.2.1, x.2.2.1)) && zOkI 13 5 x.2) = true := by decide +kernel
theorem zkL_foil : zcL_foil.all (fun x => decide (decode cL_foil x.1 = .ok (x.2.1, x.2.2.1)) && zOkI 13 4 x.2) = true := by decide +kernel
theorem zkL_noted : zcL_noted.all (fun x => decide (decode cL_noted x.1 = .ok (x.2.1, x.2.2.1)) && zOkI 13 4 x.2) = true := by decide +kernel
theorem zkL_odds : zcL_odds.all (fun x => decide (decode cL_odds x.1 = .ok (x.2.1, x.2.2.1)) && zOkI 13 5 x.2) = true := by decide +kernel
theorem zkL_ahead : zcL_ahead.all (fun x => decide (decode cL_ahead x.1 = .ok (x.2.1, x.2.2.1)) && zOkI 13 6 x.2) = true := by decide +kernel
theorem zkL_trial : zcL_trial.all (fun x => decide (decode cL_trial x.1 = .ok (x.2.1, x.2.2.1)) && zOkI 13 5 x.2) = true := by decide +kernel
theorem zkL_span : zcL_span.all (fun x => decide (decode cL_span x.1 = .ok (x.2.1, x.2.2.1)) && zOkI 13 5 x.2) = true := by decide +kernel
theorem zkL_led : zcL_led.all (fun x => decide (decode cL_led x.1 = .ok (x.2.1, x.2.2.1)) && zOkI 13 5 x.2) = true := by decide +kernel
theorem zkL_log : zcL_log.all (fun x => decide (decode cL_log x.1 = .ok (x.2.1, x.2.2.1)) && zOkI 13 5 x.2) = true := by decide +kernel
theorem zkL_law__0 : zcL_law__0.all (fun x => decide (decode cL_law_ x.1 = .ok (x.2.1, x.2.2.1)) && zOkI 13 7 x.2) = true := by decide +kernel
theorem zkL_law__1 : zcL_law__1.all (fun x => decide (decode cL_law_ x.1 = .ok (x.2.1, x.2.2.1)) && zOkI 13 7 x.2) = true := by decide +kernel
theorem zkL_law__2 : zcL_law__2.all (fun x => decide (decode cL_law_ x.1 = .ok (x.2.1, x.2.2.1)) && zOkI 13 7 x.2) = true := by decide +kernel
theorem zkL_law__3 : zcL_law__3.all (fun x => decide (decode cL_law_ x.1 = .ok (x.2.1, x.2.2.1)) && zOkI 13 7 x.2) = true := by decide +kernel
theorem zkL_law__4 : zcL_law__4.all (fun x => decide (decode cL_law_ x.1 = .ok (x.2.1, x.2.2.1)) && zOkI 13 7 x.2) = true := by decide +kernel
theorem zkL_law__5 : zcL_law__5.all (fun x => decide (decode cL_law_ x.1 = .ok (x.2.1, x.2.2.1)) && zOkI 13 7 x.2) = true := by decide +kernel
theorem zkL_law__6 : zcL_law__6.all (fun x => decide (decode cL_law_ x.1 = .ok (x.2.1, x.2.2.1)) && zOkI 13 7 x.2) = true := by decide +kernel
theorem zkL_law__7 : zcL_law__7.all (fun x => decide (decode cL_law_ x.1 = .ok (x.2.1, x.2.2.1)) && zOkI 13 7 x.2) = true := by decide +kernel
theorem zkL_law__8 : zcL_law__8.all (fun x => decide (decode cL_law_ x.1 = .ok (x.2.1, x.2.2.1)) && zOkI 13 7 x.2) = true := by decide +kernel
theorem zkL_law__9 : zcL_law__9.all (fun x => decide (decode cL_law_ x.1 = .ok (x.2.1, x.2.2.1)) && zOkI 13 7 x.2) = true := by decide +kernel
theorem zkL_law__10 : zcL_law__10.all (fun x => decide (decode cL_law_ x.1 = .ok (x.2.1, x.2.2.1)) && zOkI 13 7 x.2) = true := by decide +kernel
theorem zkL_law__11 : zcL_law__11.all (fun x => decide (decode cL_law_ x.1 = .ok (x.2.1, x.2.2.1)) && zOkI 13 7 x.2) = true := by decide +kernel
theorem zkL_law__12 : zcL_law__12.all (fun x => decide (decode cL_law_ x.1 = .ok (x.2.1, x.2.2.1)) && zOkI 13 7 x.2) = true := by decide +kernel
theorem zkL_law__13 : zcL_law__13.all (fun x => decide (decode cL_law_ x.1 = .ok (x.2.1, x.2.2.1)) && zOkI 13 7 x.2) = true := by decide +kernel
theorem zkL_law__14 : zcL_law__14.all (fun x => decide (decode cL_law_ x.1 = .ok (x.2.1, x.2.2.1)) && zOkI 13 7 x.2) = true := by decide +kernel
theorem zkL_law__15 : zcL_law__15.all (fun x => decide (decode cL_law_ x.1 = .ok (x.2.1, x.2.2.1)) && zOkI 13 7 x.2) = true := by decide +kernel
theorem zkL_law__16 : zcL_law__16.all (fun x => decide (decode cL_law_ x.1 = .ok (x.2.1, x.2.2.1)) && zOkI 13 7 x.2) = true := by decide +kernel
theorem zkL_law__17 : zcL_law__17.all (fun x => decide (decode cL_law_ x.1 = .ok (x.2.1, x.2.2.1)) && zOkI 13 7 x.2) = true := by decide +kernel
theorem zkL_law__18 : zcL_law__18.all (fun x => decide (decode cL_law_ x.1 = .ok (x.2.1, x.2.2.1)) && zOkI 13 7 x.2) = true := by decide +kernel
theorem zkL_law__19 : zcL_law__19.all (fun x => decide (decode cL_law_ x.1 = .ok (x.2.1, x.2.2.1)) && zOkI 13 7 x.2) = true := by decide +kernel
theorem zkL_law__20 : zcL_law__20.all (fun x => decide (decode cL_law_ x.1 = .ok (x.2.1, x.2.2.1)) && zOkI 13 7 x.2) = true := by decide +kernel
theorem zkL_law__21 : zcL_law__21.all (fun x => decide (decode cL_law_ x.1 = .ok (x.2.1, x.2.2.1)) && zOkI 13 7 x.2) = true := by decide +kernel
theorem zkL_law__22 : zcL_law__22.all (fun x => decide (decode cL_law_ x.1 = .ok (x.2.1, x.2.2.1)) && zOkI 13 7 x.2) = true := by decide +kernel
theorem zkL_law__23 : zcL_law__23.all (fun x => decide (decode cL_law_ x.1 = .ok (x.2.1, x.2.2.1)) && zOkI 13 7 x.2) = true := by decide +kernel
theorem zkL_law__24 : zcL_law__24.all (fun x => decide (decode cL_law_ x.1 = .ok (x.2.1, x.2.2.1)) && zOkI 13 7 x.2) = true := by decide +kernel
theorem zkL_law__25 : zcL_law__25.all (fun x => decide (decode cL_law_ x.1 = .ok (x.2.1, x.2.2.1)) && zOkI 13 7 x.2) = true := by decide +kernel
theorem zkL_law__26 : zcL_law__26.all (fun x => decide (decode cL_law_ x.1 = .ok (x.2.1, x.2.2.1)) && zOkI 13 7 x.2) = true := by decide +kernel
theorem zkL_law_ : zcL_law_.all (fun x => decide (decode cL_law_ x.1 = .ok (x.2.1, x.2.2.1)) && zOkI 13 7 x.2) = true := (List.all_append.trans (by rw [zkL_law__0]; exact (List.all_append.trans (by rw [zkL_law__1]; exact (List.all_append.trans (by rw [zkL_law__2]; exact (List.all_append.trans (by rw [zkL_law__3]; exact (List.all_append.trans (by rw [zkL_law__4]; exact (List.all_append.trans (by rw [zkL_law__5]; exact (List.all_append.trans (by rw [zkL_law__6]; exact (List.all_append.trans (by rw [zkL_law__7]; exact (List.all_append.trans (by rw [zkL_law__8]; exact (List.all_append.trans (by rw [zkL_law__9]; exact (List.all_append.trans (by rw [zkL_law__10]; exact (List.all_append.trans (by rw [zkL_law__11]; exact (List.all_append.trans (by rw [zkL_law__12]; exact (List.all_append.trans (by rw [zkL_law__13]; exact (List.all_append.trans (by rw [zkL_law__14]; exact (List.all_append.trans (by rw [zkL_law__15]; exact (List.all_append.trans (by rw [zkL_law__16]; exact (List.all_append.trans (by rw [zkL_law__17]; exact (List.all_append.trans (by rw [zkL_law__18]; exact (List.all_append.trans (by rw [zkL_law__19]; exact (List.all_append.trans (by rw [zkL_law__20]; exact (List.all_append.trans (by rw [zkL_law__21]; exact (List.all_append.trans (by rw [zkL_law__22]; exact (List.all_append.trans (by rw [zkL_law__23]; exact (List.all_append.trans (by rw [zkL_law__24]; exact (List.all_append.trans (by rw [zkL_law__25]; exact zkL_law__26))))))))))))))))))))))))))))))))))))))))))))))))))))
theorem zkC0 : ∀ t ∈ zMts_0, zKP t := List.forall_mem_cons.mpr ⟨zkX0_leftAt, List.forall_mem_cons.mpr ⟨zkX0_restAt, List.forall_mem_cons.mpr ⟨zkX0_comesTo, List.forall_mem_cons.mpr ⟨zkX0_drive, List.forall_mem_cons.mpr ⟨zkX0_leave, List.forall_mem_cons.mpr ⟨zkX1_copyFrom, List.forall_mem_cons.mpr ⟨zkX1_get, List.forall_mem_cons.mpr ⟨zkX1_set, List.forall_mem_cons.mpr ⟨zkX1_addStep, List.forall_mem_cons.mpr ⟨zkX1_stepAt, List.forall_mem_cons.mpr ⟨zkX1_placeOf, List.forall_mem_cons.mpr ⟨zkX1_changePlaces, List.forall_mem_cons.mpr ⟨zkX1_weekday, List.forall_mem_cons.mpr ⟨zkX1_isNoted, List.forall_mem_cons.mpr ⟨zkX1_alike, List.forall_mem_cons.mpr ⟨zkX1_sum, List.forall_mem_cons.mpr ⟨zkX1_bottles, List.forall_mem_cons.mpr ⟨zkX1_drySteps, List.forall_mem_cons.mpr ⟨zkX1_stepsWith, List.forall_mem_cons.mpr ⟨zkX1_stepOfMost, fun _ h => absurd h List.not_mem_nil⟩⟩⟩⟩⟩⟩⟩⟩⟩⟩⟩⟩⟩⟩⟩⟩⟩⟩⟩⟩
theorem zkC1 : ∀ t ∈ zMts_1, zKP t := List.forall_mem_cons.mpr ⟨zkX1_addBottles, List.forall_mem_cons.mpr ⟨zkX1_take, List.forall_mem_cons.mpr ⟨zkX1_receive, List.forall_mem_cons.mpr ⟨zkX1_drink, List.forall_mem_cons.mpr ⟨zkX1_turn, List.forall_mem_cons.mpr ⟨zkX1_draw, List.forall_mem_cons.mpr ⟨zkX2_valueCode, List.forall_mem_cons.mpr ⟨zkX2_begin, List.forall_mem_cons.mpr ⟨zkX2_addLine, List.forall_mem_cons.mpr ⟨zkX2_endLine, List.forall_mem_cons.mpr ⟨zkX2_put, List.forall_mem_cons.mpr ⟨zkX2_copyFrom, List.forall_mem_cons.mpr ⟨zkX2_weigh, List.forall_mem_cons.mpr ⟨zkX2_applies, List.forall_mem_cons.mpr ⟨zkX2_joined, List.forall_mem_cons.mpr ⟨zkX2_push, List.forall_mem_cons.mpr ⟨zkX2_pop, List.forall_mem_cons.mpr ⟨zkX3_add, List.forall_mem_cons.mpr ⟨zkX3_cell, List.forall_mem_cons.mpr ⟨zkX3_rowsOf, fun _ h => absurd h List.not_mem_nil⟩⟩⟩⟩⟩⟩⟩⟩⟩⟩⟩⟩⟩⟩⟩⟩⟩⟩⟩⟩
theorem zkC2 : ∀ t ∈ zMts_2, zKP t := List.forall_mem_cons.mpr ⟨zkX3_latestDayOf, List.forall_mem_cons.mpr ⟨zkX3_copyFrom, List.forall_mem_cons.mpr ⟨zkX4_best, List.forall_mem_cons.mpr ⟨zkX4_number, List.forall_mem_cons.mpr ⟨zkX4_farTogether, List.forall_mem_cons.mpr ⟨zkX4_put, List.forall_mem_cons.mpr ⟨zkX4_withPair, List.forall_mem_cons.mpr ⟨zkX4_partnerOf, List.forall_mem_cons.mpr ⟨zkX4_firstPartner, List.forall_mem_cons.mpr ⟨zkX5_isCorner, List.forall_mem_cons.mpr ⟨zkX5_roadBetween, List.forall_mem_cons.mpr ⟨zkX5_setRoad, List.forall_mem_cons.mpr ⟨zkX5_between, List.forall_mem_cons.mpr ⟨zkX5_copyFrom, List.forall_mem_cons.mpr ⟨zkX5_roads, List.forall_mem_cons.mpr ⟨zkX5_measure, List.forall_mem_cons.mpr ⟨zkX5_shorten, List.forall_mem_cons.mpr ⟨zkX5_reach, List.forall_mem_cons.mpr ⟨zkX5_lowest, List.forall_mem_cons.mpr ⟨zkX6_copyFrom, fun _ h => absurd h List.not_mem_nil⟩⟩⟩⟩⟩⟩⟩⟩⟩⟩⟩⟩⟩⟩⟩⟩⟩⟩⟩⟩
theorem zkC3 : ∀ t ∈ zMts_3, zKP t := List.forall_mem_cons.mpr ⟨zkX6_farFromDairy, List.forall_mem_cons.mpr ⟨zkX6_wayWith, List.forall_mem_cons.mpr ⟨zkX6_drive, List.forall_mem_cons.mpr ⟨zkX6_deliver, List.forall_mem_cons.mpr ⟨zkX6_writeLog, List.forall_mem_cons.mpr ⟨zkX6_birdsAndFrost, List.forall_mem_cons.mpr ⟨zkX6_drinkAndSour, List.forall_mem_cons.mpr ⟨zkX6_quietMornings, List.forall_mem_cons.mpr ⟨zkX6_wildMornings, List.forall_mem_cons.mpr ⟨zkX7_hasRoom, List.forall_mem_cons.mpr ⟨zkX7_add, List.forall_mem_cons.mpr ⟨zkX7_keepFirst, List.forall_mem_cons.mpr ⟨zkX7_useUp, List.forall_mem_cons.mpr ⟨zkX7_byteAt, List.forall_mem_cons.mpr ⟨zkX7_sortOf, List.forall_mem_cons.mpr ⟨zkX7_startText, List.forall_mem_cons.mpr ⟨zkX7_goOn, List.forall_mem_cons.mpr ⟨zkX7_atEnd, List.forall_mem_cons.mpr ⟨zkX7_fail, List.forall_mem_cons.mpr ⟨zkX7_nextIs, fun _ h => absurd h List.not_mem_nil⟩⟩⟩⟩⟩⟩⟩⟩⟩⟩⟩⟩⟩⟩⟩⟩⟩⟩⟩⟩
theorem zkC4 : ∀ t ∈ zMts_4, zKP t := List.forall_mem_cons.mpr ⟨zkX7_nextIsDigit, List.forall_mem_cons.mpr ⟨zkX7_word, List.forall_mem_cons.mpr ⟨zkX7_needWord, List.forall_mem_cons.mpr ⟨zkX7_number, List.forall_mem_cons.mpr ⟨zkX8_read, List.forall_mem_cons.mpr ⟨zkX8_readPlainLine, List.forall_mem_cons.mpr ⟨zkX8_readStep, List.forall_mem_cons.mpr ⟨zkX8_readRoad, List.forall_mem_cons.mpr ⟨zkX8_readLawLine, List.forall_mem_cons.mpr ⟨zkX8_readAny, List.forall_mem_cons.mpr ⟨zkX8_readAll, List.forall_mem_cons.mpr ⟨zkX8_readAtom, List.forall_mem_cons.mpr ⟨zkX8_readSum, List.forall_mem_cons.mpr ⟨zkX8_readPart, List.forall_mem_cons.mpr ⟨zkX9_forget, List.forall_mem_cons.mpr ⟨zkX9_restOf, List.forall_mem_cons.mpr ⟨zkX9_wayOf, List.forall_mem_cons.mpr ⟨zkX9_cornerOf, List.forall_mem_cons.mpr ⟨zkX9_measure, List.forall_mem_cons.mpr ⟨zkX9_leastFrom, fun _ h => absurd h List.not_mem_nil⟩⟩⟩⟩⟩⟩⟩⟩⟩⟩⟩⟩⟩⟩⟩⟩⟩⟩⟩⟩
theorem zkC5 : ∀ t ∈ zMts_5, zKP t := List.forall_mem_cons.mpr ⟨zkX9_wayBy, List.forall_mem_cons.mpr ⟨zkX9_stepOfFirst, List.forall_mem_cons.mpr ⟨zkX9_firstStep, List.forall_mem_cons.mpr ⟨zkX10_hear, List.forall_mem_cons.mpr ⟨zkX10_look, List.forall_mem_cons.mpr ⟨zkX10_countGiven, List.forall_mem_cons.mpr ⟨zkX10_bestStep, List.forall_mem_cons.mpr ⟨zkX11_feed, List.forall_mem_cons.mpr ⟨zkX11_end, List.forall_mem_cons.mpr ⟨zkX11_suburb, List.forall_mem_cons.mpr ⟨zkX11_law, List.forall_mem_cons.mpr ⟨zkX11_fault, List.forall_mem_cons.mpr ⟨zkX11_step, List.forall_mem_cons.mpr ⟨zkX11_far, List.forall_mem_cons.mpr ⟨zkX11_road, List.forall_mem_cons.mpr ⟨zkX11_round, List.forall_mem_cons.mpr ⟨zkX11_mornings, List.forall_mem_cons.mpr ⟨zkX11_pay, List.forall_mem_cons.mpr ⟨zkX11_note, List.forall_mem_cons.mpr ⟨zkX11_kind, fun _ h => absurd h List.not_mem_nil⟩⟩⟩⟩⟩⟩⟩⟩⟩⟩⟩⟩⟩⟩⟩⟩⟩⟩⟩⟩
theorem zkC6 : ∀ t ∈ zMts_6, zKP t := List.forall_mem_cons.mpr ⟨zkX11_change, List.forall_mem_cons.mpr ⟨zkX11_charge, List.forall_mem_cons.mpr ⟨zkX11_crates, List.forall_mem_cons.mpr ⟨zkX11_lend, List.forall_mem_cons.mpr ⟨zkX11_leaves, List.forall_mem_cons.mpr ⟨zkX11_passed, List.forall_mem_cons.mpr ⟨zkX11_home, List.forall_mem_cons.mpr ⟨zkX11_way, List.forall_mem_cons.mpr ⟨zkX11_shortest, List.forall_mem_cons.mpr ⟨zkX11_most, List.forall_mem_cons.mpr ⟨zkX11_least, List.forall_mem_cons.mpr ⟨zkX11_dairy, List.forall_mem_cons.mpr ⟨zkX11_bridges, List.forall_mem_cons.mpr ⟨zkX11_cut, List.forall_mem_cons.mpr ⟨zkX11_dries, List.forall_mem_cons.mpr ⟨zkX11_owes, List.forall_mem_cons.mpr ⟨zkX11_pays, List.forall_mem_cons.mpr ⟨zkX11_holds, List.forall_mem_cons.mpr ⟨zkX11_ahead, List.forall_mem_cons.mpr ⟨zkX11_trial, fun _ h => absurd h List.not_mem_nil⟩⟩⟩⟩⟩⟩⟩⟩⟩⟩⟩⟩⟩⟩⟩⟩⟩⟩⟩⟩
theorem zkC7 : ∀ t ∈ zMts_7, zKP t := List.forall_mem_cons.mpr ⟨zkX11_span, List.forall_mem_cons.mpr ⟨zkX11_seen, List.forall_mem_cons.mpr ⟨zkX11_ask, List.forall_mem_cons.mpr ⟨zkX11_neighbours, List.forall_mem_cons.mpr ⟨zkX11_neighbour, List.forall_mem_cons.mpr ⟨zkX11_gutter, List.forall_mem_cons.mpr ⟨zkX11_rests, List.forall_mem_cons.mpr ⟨zkX11_cross, List.forall_mem_cons.mpr ⟨zkX11_swap, List.forall_mem_cons.mpr ⟨zkX11_foil, List.forall_mem_cons.mpr ⟨zkX11_dogs, List.forall_mem_cons.mpr ⟨zkX11_noted, List.forall_mem_cons.mpr ⟨zkX11_thirsty, List.forall_mem_cons.mpr ⟨zkX11_rich, List.forall_mem_cons.mpr ⟨zkX11_odds, List.forall_mem_cons.mpr ⟨zkX11_twins, List.forall_mem_cons.mpr ⟨zkX11_led, List.forall_mem_cons.mpr ⟨zkX11_log, List.forall_mem_cons.mpr ⟨zkX11_seed, List.forall_mem_cons.mpr ⟨zkX11_undo, fun _ h => absurd h List.not_mem_nil⟩⟩⟩⟩⟩⟩⟩⟩⟩⟩⟩⟩⟩⟩⟩⟩⟩⟩⟩⟩
theorem zkC8 : ∀ t ∈ zMts_8, zKP t := List.forall_mem_cons.mpr ⟨zkX11_image, List.forall_mem_cons.mpr ⟨zkX11_back, List.forall_mem_cons.mpr ⟨zkX11_count, List.forall_mem_cons.mpr ⟨zkX11_needStep, List.forall_mem_cons.mpr ⟨zkX11_needCorner, List.forall_mem_cons.mpr ⟨zkX11_needKind, List.forall_mem_cons.mpr ⟨zkX11_needWeekday, List.forall_mem_cons.mpr ⟨zkX11_needTwo, List.forall_mem_cons.mpr ⟨zkX11_needDays, List.forall_mem_cons.mpr ⟨zkX11_orNone, List.forall_mem_cons.mpr ⟨zkX11_everyStep, List.forall_mem_cons.mpr ⟨zkX11_remember, List.forall_mem_cons.mpr ⟨zkX11_tell, List.forall_mem_cons.mpr ⟨zkX11_shareOf, List.forall_mem_cons.mpr ⟨zkX11_outerOf, List.forall_mem_cons.mpr ⟨zkX11_farToAll, List.forall_mem_cons.mpr ⟨zkX11_reachedSteps, List.forall_mem_cons.mpr ⟨zkX11_mostOwed, List.forall_mem_cons.mpr ⟨zkX11_has, List.forall_mem_cons.mpr ⟨zkX12_thrown, fun _ h => absurd h List.not_mem_nil⟩⟩⟩⟩⟩⟩⟩⟩⟩⟩⟩⟩⟩⟩⟩⟩⟩⟩⟩⟩
theorem zkC9 : ∀ t ∈ zMts_9, zKP t := List.forall_mem_cons.mpr ⟨zkX12_throwsIf, List.forall_mem_cons.mpr ⟨zkX12_in, List.forall_mem_cons.mpr ⟨zkX12_has, List.forall_mem_cons.mpr ⟨zkX12_image, List.forall_mem_cons.mpr ⟨zkX12_back, List.forall_mem_cons.mpr ⟨zkX12_remembers, List.forall_mem_cons.mpr ⟨zkX12_undo, List.forall_mem_cons.mpr ⟨zkX12_steps, List.forall_mem_cons.mpr ⟨zkX12_allSteps, List.forall_mem_cons.mpr ⟨zkX12_at, List.forall_mem_cons.mpr ⟨zkX12_of, List.forall_mem_cons.mpr ⟨zkX12_inRound, List.forall_mem_cons.mpr ⟨zkX12_placeOf, List.forall_mem_cons.mpr ⟨zkX12_roadAt, List.forall_mem_cons.mpr ⟨zkX12_noStep, List.forall_mem_cons.mpr ⟨zkX12_noCorner, List.forall_mem_cons.mpr ⟨zkX12_drawn, List.forall_mem_cons.mpr ⟨zkX12_farOf, List.forall_mem_cons.mpr ⟨zkX12_laysFars, List.forall_mem_cons.mpr ⟨zkX12_farBetween, fun _ h => absurd h List.not_mem_nil⟩⟩⟩⟩⟩⟩⟩⟩⟩⟩⟩⟩⟩⟩⟩⟩⟩⟩⟩⟩
theorem zkC10 : ∀ t ∈ zMts_10, zKP t := List.forall_mem_cons.mpr ⟨zkX12_farHome, List.forall_mem_cons.mpr ⟨zkX12_feed, List.forall_mem_cons.mpr ⟨zkX12_end, List.forall_mem_cons.mpr ⟨zkX12_isAt, List.forall_mem_cons.mpr ⟨zkX12_blanks, List.forall_mem_cons.mpr ⟨zkX12_letters, List.forall_mem_cons.mpr ⟨zkX12_isWord, List.forall_mem_cons.mpr ⟨zkX12_passes, List.forall_mem_cons.mpr ⟨zkX12_sign, List.forall_mem_cons.mpr ⟨zkX12_number, List.forall_mem_cons.mpr ⟨zkX12_after, List.forall_mem_cons.mpr ⟨zkX12_told, List.forall_mem_cons.mpr ⟨zkX12_fault, List.forall_mem_cons.mpr ⟨zkX12_uses, List.forall_mem_cons.mpr ⟨zkX12_readNumber, List.forall_mem_cons.mpr ⟨zkX12_readStep, List.forall_mem_cons.mpr ⟨zkX12_readRoad, List.forall_mem_cons.mpr ⟨zkX12_readSuburbLine, List.forall_mem_cons.mpr ⟨zkX12_emits, List.forall_mem_cons.mpr ⟨zkX12_wordOfPart, fun _ h => absurd h List.not_mem_nil⟩⟩⟩⟩⟩⟩⟩⟩⟩⟩⟩⟩⟩⟩⟩⟩⟩⟩⟩⟩
theorem zkC11 : ∀ t ∈ zMts_11, zKP t := List.forall_mem_cons.mpr ⟨zkX12_readPart, List.forall_mem_cons.mpr ⟨zkX12_readSum, List.forall_mem_cons.mpr ⟨zkX12_readTag, List.forall_mem_cons.mpr ⟨zkX12_readAtom, List.forall_mem_cons.mpr ⟨zkX12_readAllOf, List.forall_mem_cons.mpr ⟨zkX12_readCond, List.forall_mem_cons.mpr ⟨zkX12_readLawLine, List.forall_mem_cons.mpr ⟨zkX12_readLine, List.forall_mem_cons.mpr ⟨zkX12_readAll, List.forall_mem_cons.mpr ⟨zkX12_suburb, List.forall_mem_cons.mpr ⟨zkX12_law, List.forall_mem_cons.mpr ⟨zkX12_weekday, List.forall_mem_cons.mpr ⟨zkX12_isNoted, List.forall_mem_cons.mpr ⟨zkX12_factOf, List.forall_mem_cons.mpr ⟨zkX12_holdsLine, List.forall_mem_cons.mpr ⟨zkX12_byLaw, List.forall_mem_cons.mpr ⟨zkX12_sumOf, List.forall_mem_cons.mpr ⟨zkX12_shareOf, List.forall_mem_cons.mpr ⟨zkX12_outerOf, List.forall_mem_cons.mpr ⟨zkX12_step, fun _ h => absurd h List.not_mem_nil⟩⟩⟩⟩⟩⟩⟩⟩⟩⟩⟩⟩⟩⟩⟩⟩⟩⟩⟩⟩
theorem zkC12 : ∀ t ∈ zMts_12, zKP t := List.forall_mem_cons.mpr ⟨zkX12_orNone, List.forall_mem_cons.mpr ⟨zkX12_far, List.forall_mem_cons.mpr ⟨zkX12_road, List.forall_mem_cons.mpr ⟨zkX12_noPlace, List.forall_mem_cons.mpr ⟨zkX12_round, List.forall_mem_cons.mpr ⟨zkX12_tells, List.forall_mem_cons.mpr ⟨zkX12_adds, List.forall_mem_cons.mpr ⟨zkX12_getsOne, List.forall_mem_cons.mpr ⟨zkX12_setsOut, List.forall_mem_cons.mpr ⟨zkX12_goesTo, List.forall_mem_cons.mpr ⟨zkX12_rides, List.forall_mem_cons.mpr ⟨zkX12_delivers, List.forall_mem_cons.mpr ⟨zkX12_isPecked, List.forall_mem_cons.mpr ⟨zkX12_drinks, List.forall_mem_cons.mpr ⟨zkX12_turnsOld, List.forall_mem_cons.mpr ⟨zkX12_oneMorning, List.forall_mem_cons.mpr ⟨zkX12_goesOn, List.forall_mem_cons.mpr ⟨zkX12_keepsAll, List.forall_mem_cons.mpr ⟨zkX12_bringsBack, List.forall_mem_cons.mpr ⟨zkX12_mornings, fun _ h => absurd h List.not_mem_nil⟩⟩⟩⟩⟩⟩⟩⟩⟩⟩⟩⟩⟩⟩⟩⟩⟩⟩⟩⟩
theorem zkC13 : ∀ t ∈ zMts_13, zKP t := List.forall_mem_cons.mpr ⟨zkX12_pay, List.forall_mem_cons.mpr ⟨zkX12_isChanged, List.forall_mem_cons.mpr ⟨zkX12_note, List.forall_mem_cons.mpr ⟨zkX12_kind, List.forall_mem_cons.mpr ⟨zkX12_changes, List.forall_mem_cons.mpr ⟨zkX12_change, List.forall_mem_cons.mpr ⟨zkX12_charge, List.forall_mem_cons.mpr ⟨zkX12_crates, List.forall_mem_cons.mpr ⟨zkX12_lend, List.forall_mem_cons.mpr ⟨zkX12_leaves, List.forall_mem_cons.mpr ⟨zkX12_passed, List.forall_mem_cons.mpr ⟨zkX12_home, List.forall_mem_cons.mpr ⟨zkX12_wayNow, List.forall_mem_cons.mpr ⟨zkX12_way, List.forall_mem_cons.mpr ⟨zkX12_restAt, List.forall_mem_cons.mpr ⟨zkX12_farFrom, List.forall_mem_cons.mpr ⟨zkX12_restBy, List.forall_mem_cons.mpr ⟨zkX12_laysRest, List.forall_mem_cons.mpr ⟨zkX12_shortest, List.forall_mem_cons.mpr ⟨zkX12_most, fun _ h => absurd h List.not_mem_nil⟩⟩⟩⟩⟩⟩⟩⟩⟩⟩⟩⟩⟩⟩⟩⟩⟩⟩⟩⟩
theorem zkC14 : ∀ t ∈ zMts_14, zKP t := List.forall_mem_cons.mpr ⟨zkX12_least, List.forall_mem_cons.mpr ⟨zkX12_cross, List.forall_mem_cons.mpr ⟨zkX12_swap, List.forall_mem_cons.mpr ⟨zkX12_dairy, List.forall_mem_cons.mpr ⟨zkX12_reached, List.forall_mem_cons.mpr ⟨zkX12_stepsIn, List.forall_mem_cons.mpr ⟨zkX12_bridges, List.forall_mem_cons.mpr ⟨zkX12_cut, List.forall_mem_cons.mpr ⟨zkX12_noDays, List.forall_mem_cons.mpr ⟨zkX12_dryOnes, List.forall_mem_cons.mpr ⟨zkX12_dries, List.forall_mem_cons.mpr ⟨zkX12_owes, List.forall_mem_cons.mpr ⟨zkX12_pays, List.forall_mem_cons.mpr ⟨zkX12_bottlesNow, List.forall_mem_cons.mpr ⟨zkX12_holds, List.forall_mem_cons.mpr ⟨zkX12_ahead, List.forall_mem_cons.mpr ⟨zkX12_isSeen, List.forall_mem_cons.mpr ⟨zkX12_laysGiven, List.forall_mem_cons.mpr ⟨zkX12_fits, List.forall_mem_cons.mpr ⟨zkX12_seen, fun _ h => absurd h List.not_mem_nil⟩⟩⟩⟩⟩⟩⟩⟩⟩⟩⟩⟩⟩⟩⟩⟩⟩⟩⟩⟩
theorem zkC15 : ∀ t ∈ zMts_15, zKP t := List.forall_mem_cons.mpr ⟨zkX12_ask, List.forall_mem_cons.mpr ⟨zkX12_firstOf, List.forall_mem_cons.mpr ⟨zkX12_pairedBy, List.forall_mem_cons.mpr ⟨zkX12_laysPaired, List.forall_mem_cons.mpr ⟨zkX12_partnerOf, List.forall_mem_cons.mpr ⟨zkX12_neighbours, List.forall_mem_cons.mpr ⟨zkX12_neighbour, List.forall_mem_cons.mpr ⟨zkX12_gutter, List.forall_mem_cons.mpr ⟨zkX12_hasBy, List.forall_mem_cons.mpr ⟨zkX12_rests, List.forall_mem_cons.mpr ⟨zkX12_thatHave, List.forall_mem_cons.mpr ⟨zkX12_foil, List.forall_mem_cons.mpr ⟨zkX12_dogs, List.forall_mem_cons.mpr ⟨zkX12_noted, List.forall_mem_cons.mpr ⟨zkX12_mostOf, List.forall_mem_cons.mpr ⟨zkX12_thirsty, List.forall_mem_cons.mpr ⟨zkX12_rich, List.forall_mem_cons.mpr ⟨zkX12_odds, List.forall_mem_cons.mpr ⟨zkX12_twins, List.forall_mem_cons.mpr ⟨zkX12_trial, fun _ h => absurd h List.not_mem_nil⟩⟩⟩⟩⟩⟩⟩⟩⟩⟩⟩⟩⟩⟩⟩⟩⟩⟩⟩⟩
theorem zkC16 : ∀ t ∈ zMts_16, zKP t := List.forall_mem_cons.mpr ⟨zkX12_span, List.forall_mem_cons.mpr ⟨zkX12_ofLog, List.forall_mem_cons.mpr ⟨zkX12_led, List.forall_mem_cons.mpr ⟨zkX12_log, List.forall_mem_cons.mpr ⟨zkX12_seed, List.forall_mem_cons.mpr ⟨zkX12_count, List.forall_mem_cons.mpr ⟨zkJ6_numberOfTrailingZeros_0f7a4, List.forall_mem_cons.mpr ⟨zkJ6_bitCount_0f7a4, List.forall_mem_cons.mpr ⟨zkJ7_fill_53178, List.forall_mem_cons.mpr ⟨zkL_suburb, List.forall_mem_cons.mpr ⟨zkL_law, List.forall_mem_cons.mpr ⟨zkL_step, List.forall_mem_cons.mpr ⟨zkL_far, List.forall_mem_cons.mpr ⟨zkL_road, List.forall_mem_cons.mpr ⟨zkL_round, List.forall_mem_cons.mpr ⟨zkL_mornings, List.forall_mem_cons.mpr ⟨zkL_pay, List.forall_mem_cons.mpr ⟨zkL_note, List.forall_mem_cons.mpr ⟨zkL_kind, List.forall_mem_cons.mpr ⟨zkL_change, fun _ h => absurd h List.not_mem_nil⟩⟩⟩⟩⟩⟩⟩⟩⟩⟩⟩⟩⟩⟩⟩⟩⟩⟩⟩⟩
theorem zkC17 : ∀ t ∈ zMts_17, zKP t := List.forall_mem_cons.mpr ⟨zkL_charge, List.forall_mem_cons.mpr ⟨zkL_crates, List.forall_mem_cons.mpr ⟨zkL_lend, List.forall_mem_cons.mpr ⟨zkL_cut, List.forall_mem_cons.mpr ⟨zkL_owes, List.forall_mem_cons.mpr ⟨zkL_pays, List.forall_mem_cons.mpr ⟨zkL_holds, List.forall_mem_cons.mpr ⟨zkL_seen, List.forall_mem_cons.mpr ⟨zkL_ask, List.forall_mem_cons.mpr ⟨zkL_neighbour, List.forall_mem_cons.mpr ⟨zkL_gutter, List.forall_mem_cons.mpr ⟨zkL_rests, List.forall_mem_cons.mpr ⟨zkL_foil, List.forall_mem_cons.mpr ⟨zkL_noted, List.forall_mem_cons.mpr ⟨zkL_odds, List.forall_mem_cons.mpr ⟨zkL_ahead, List.forall_mem_cons.mpr ⟨zkL_trial, List.forall_mem_cons.mpr ⟨zkL_span, List.forall_mem_cons.mpr ⟨zkL_led, List.forall_mem_cons.mpr ⟨zkL_log, fun _ h => absurd h List.not_mem_nil⟩⟩⟩⟩⟩⟩⟩⟩⟩⟩⟩⟩⟩⟩⟩⟩⟩⟩⟩⟩
theorem zkC18 : ∀ t ∈ zMts_18, zKP t := List.forall_mem_cons.mpr ⟨zkL_law_, fun _ h => absurd h List.not_mem_nil⟩
theorem zkAll : ∀ t ∈ zMts, zKP t := List.forall_mem_append.mpr ⟨zkC0, List.forall_mem_append.mpr ⟨zkC1, List.forall_mem_append.mpr ⟨zkC2, List.forall_mem_append.mpr ⟨zkC3, List.forall_mem_append.mpr ⟨zkC4, List.forall_mem_append.mpr ⟨zkC5, List.forall_mem_append.mpr ⟨zkC6, List.forall_mem_append.mpr ⟨zkC7, List.forall_mem_append.mpr ⟨zkC8, List.forall_mem_append.mpr ⟨zkC9, List.forall_mem_append.mpr ⟨zkC10, List.forall_mem_append.mpr ⟨zkC11, List.forall_mem_append.mpr ⟨zkC12, List.forall_mem_append.mpr ⟨zkC13, List.forall_mem_append.mpr ⟨zkC14, List.forall_mem_append.mpr ⟨zkC15, List.forall_mem_append.mpr ⟨zkC16, List.forall_mem_append.mpr ⟨zkC17, zkC18⟩⟩⟩⟩⟩⟩⟩⟩⟩⟩⟩⟩⟩⟩⟩⟩⟩⟩
