/-! ===== the methods by number, and what calls link (printed by program) ===== -/
def gL0 : List mG := [(yX0_init, RX0, cX0_init, none, 0),
  (yX0_learn, RX0, cX0_learn, none, 0),
  (yX0_turnsNeeded, RX0, cX0_turnsNeeded, (some .int), 1),
  (yX0_widen, RX0, cX0_widen, (some .boolean), 1),
  (yX0_leadsInto, RX0, cX0_leadsInto, (some .boolean), 1),
  (yX0_firstBest, RX0, cX0_firstBest, (some .int), 1),
  (yX1_init, RX1, cX1_init, none, 0),
  (yX1_begin, RX1, cX1_begin, none, 0),
  (yX1_beginUnit, RX1, cX1_beginUnit, none, 0),
  (yX1_take, RX1, cX1_take, (some .int), 1),
  (yX1_opens, RX1, cX1_opens, (some .boolean), 1),
  (yX1_takeOpening, RX1, cX1_takeOpening, (some .int), 1),
  (yX1_takeAtom, RX1, cX1_takeAtom, (some .int), 1),
  (yX1_nameOf, RX1, cX1_nameOf, (some .int), 1),
  (yX1_fitsBehind, RX1, cX1_fitsBehind, (some .boolean), 1),
  (yX1_takeBehind, RX1, cX1_takeBehind, none, 0),
  (yX1_finish, RX1, cX1_finish, none, 0),
  (yX1_push, RX1, cX1_push, none, 0),
  (yX1_popDownTo, RX1, cX1_popDownTo, none, 0),
  (yX1_rank, RX1, cX1_rank, (some .int), 1),
  (yX2_init, RX2, cX2_init, none, 0),
  (yX2_empty, RX2, cX2_empty, none, 0),
  (yX2_copyFrom, RX2, cX2_copyFrom, none, 0),
  (yX2_addCode, RX2, cX2_addCode, none, 0),
  (yX2_bitsFrom, RX2, cX2_bitsFrom, (some .int), 1),
  (yX3_init, RX3, cX3_init, none, 0),
  (yX3_keep, RX3, cX3_keep, none, 0),
  (yX3_forgetEldest, RX3, cX3_forgetEldest, none, 0),
  (yX3_bringBack, RX3, cX3_bringBack, none, 0),
  (yX3_forget, RX3, cX3_forget, none, 0),
  (yX4_init, RX4, cX4_init, none, 0),
  (yX4_readText, RX4, cX4_readText, (some .int), 1),
  (yX4_readFarms, RX4, cX4_readFarms, (some .boolean), 1),
  (yX4_readLine, RX4, cX4_readLine, (some .boolean), 1),
  (yX4_endLine, RX4, cX4_endLine, (some .boolean), 1),
  (yX4_readBit, RX4, cX4_readBit, (some .boolean), 1),
  (yX4_readFarm, RX4, cX4_readFarm, (some .boolean), 1),
  (yX4_readCut, RX4, cX4_readCut, (some .boolean), 1),
  (yX4_readSnow, RX4, cX4_readSnow, (some .boolean), 1),
  (yX4_readNow, RX4, cX4_readNow, (some .boolean), 1)]
def gL1 : List mG := [(yX4_readLaw, RX4, cX4_readLaw, (some .boolean), 1),
  (yX4_expect, RX4, cX4_expect, (some .boolean), 1),
  (yX4_number, RX4, cX4_number, (some .int), 1),
  (yX4_fail, RX4, cX4_fail, (some .boolean), 1),
  (yX4_advance, RX4, cX4_advance, none, 0),
  (yX4_takeWord, RX4, cX4_takeWord, none, 0),
  (yX4_takeNumber, RX4, cX4_takeNumber, none, 0),
  (yX4_isSmall, RX4, cX4_isSmall, (some .boolean), 1),
  (yX4_isDigit, RX4, cX4_isDigit, (some .boolean), 1),
  (yX5_init, RX5, cX5_init, none, 0),
  (yX5_take, RX5, cX5_take, (some .int), 1),
  (yX5_hasPlace, RX5, cX5_hasPlace, (some .boolean), 1),
  (yX5_fits, RX5, cX5_fits, (some .boolean), 1),
  (yX5_howManySeen, RX5, cX5_howManySeen, (some .long), 2),
  (yX5_swap, RX5, cX5_swap, none, 0),
  (yX5_sum, RX5, cX5_sum, (some .long), 2),
  (yX5_bitsAt, RX5, cX5_bitsAt, (some .int), 1),
  (yX5_momentsThatGoOn, RX5, cX5_momentsThatGoOn, (some .int), 1),
  (yX5_howManyTold, RX5, cX5_howManyTold, (some .long), 2),
  (yX5_farmsAt, RX5, cX5_farmsAt, (some .int), 1),
  (yX5_notTwice, RX5, cX5_notTwice, (some .int), 1),
  (yX6_init, RX6, cX6_init, none, 0),
  (yX6_begin, RX6, cX6_begin, none, 0),
  (yX6_size, RX6, cX6_size, (some .int), 1),
  (yX6_nextPlace, RX6, cX6_nextPlace, (some .int), 1),
  (yX6_isReached, RX6, cX6_isReached, (some .boolean), 1),
  (yX6_offer, RX6, cX6_offer, none, 0),
  (yX6_steps, RX6, cX6_steps, (some .int), 1),
  (yX6_labelAt, RX6, cX6_labelAt, (some .int), 1),
  (yX7_init, RX7, cX7_init, none, 0),
  (yX7_begin, RX7, cX7_begin, none, 0),
  (yX7_copyFrom, RX7, cX7_copyFrom, none, 0),
  (yX8_init, RX8, cX8_init, none, 0),
  (yX8_isMissing, RX8, cX8_isMissing, (some .boolean), 1),
  (yX8_lay, RX8, cX8_lay, none, 0),
  (yX8_at, RX8, cX8_at, (some .long), 2),
  (yX8_put, RX8, cX8_put, (some .long), 2),
  (yX8_trim, RX8, cX8_trim, (some .long), 2),
  (yX9_init, RX9, cX9_init, none, 0),
  (yX9_reached, RX9, cX9_reached, (some .int), 1)]
def gL2 : List mG := [(yX9_howMany, RX9, cX9_howMany, (some .long), 2),
  (yX9_find, RX9, cX9_find, (some .int), 1),
  (yX9_markBits, RX9, cX9_markBits, (some .int), 1),
  (yX9_sortBits, RX9, cX9_sortBits, none, 0),
  (yX9_spread, RX9, cX9_spread, none, 0),
  (yX9_findJoining, RX9, cX9_findJoining, (some .int), 1),
  (yX9_spreadLow, RX9, cX9_spreadLow, none, 0),
  (yX9_spreadHigh, RX9, cX9_spreadHigh, none, 0),
  (yX9_offerPair, RX9, cX9_offerPair, none, 0),
  (yX9_markAtOne, RX9, cX9_markAtOne, none, 0),
  (yX10_init, RX10, cX10_init, none, 0),
  (yX10_isFarm, RX10, cX10_isFarm, (some .boolean), 1),
  (yX10_isMoment, RX10, cX10_isMoment, (some .boolean), 1),
  (yX10_isBit, RX10, cX10_isBit, (some .boolean), 1),
  (yX10_isWire, RX10, cX10_isWire, (some .boolean), 1),
  (yX10_allows, RX10, cX10_allows, (some .boolean), 1),
  (yX10_allowedBits, RX10, cX10_allowedBits, (some .int), 1),
  (yX10_allowedFarms, RX10, cX10_allowedFarms, (some .int), 1),
  (yX10_tellableBits, RX10, cX10_tellableBits, (some .int), 1),
  (yX10_hearsFrom, RX10, cX10_hearsFrom, (some .boolean), 1),
  (yX10_heardFarms, RX10, cX10_heardFarms, (some .int), 1),
  (yX10_hearers, RX10, cX10_hearers, (some .int), 1),
  (yX10_liking, RX10, cX10_liking, (some .int), 1),
  (yX10_lawValue, RX10, cX10_lawValue, (some .int), 1),
  (yX10_joined, RX10, cX10_joined, (some .int), 1),
  (yX10_whyNotTell, RX10, cX10_whyNotTell, (some .int), 1),
  (yX10_whyNot, RX10, cX10_whyNot, (some .int), 1),
  (yX10_attempt, RX10, cX10_attempt, (some .int), 1),
  (yX10_nextFarm, RX10, cX10_nextFarm, (some .int), 1),
  (yX10_firstBit, RX10, cX10_firstBit, (some .int), 1),
  (yX10_say, RX10, cX10_say, (some .int), 1),
  (yX10_doAll, RX10, cX10_doAll, (some .int), 1),
  (yX10_haveWinter, RX10, cX10_haveWinter, (some .int), 1),
  (yX10_drawnDeed, RX10, cX10_drawnDeed, (some .int), 1),
  (yX10_drawBelow, RX10, cX10_drawBelow, (some .int), 1),
  (yX10_unlikeMoments, RX10, cX10_unlikeMoments, (some .int), 1),
  (yX10_allDoubts, RX10, cX10_allDoubts, (some .int), 1),
  (yX10_wholeAbove, RX10, cX10_wholeAbove, (some .long), 2),
  (yX10_wholeBelow, RX10, cX10_wholeBelow, (some .long), 2),
  (yX11_init, RX11, cX11_init, none, 0)]
def gL3 : List mG := [(yX11_feed, RX11, cX11_feed, (some .int), 1),
  (yX11_putBytes, RX11, cX11_putBytes, none, 0),
  (yX11_line, RX11, cX11_line, (some .int), 1),
  (yX11_fault, RX11, cX11_fault, (some .int), 1),
  (yX11_farm, RX11, cX11_farm, (some .int), 1),
  (yX11_bit, RX11, cX11_bit, (some .int), 1),
  (yX11_wire, RX11, cX11_wire, (some .int), 1),
  (yX11_likes, RX11, cX11_likes, (some .int), 1),
  (yX11_tell, RX11, cX11_tell, (some .int), 1),
  (yX11_cut, RX11, cX11_cut, (some .int), 1),
  (yX11_mood, RX11, cX11_mood, (some .int), 1),
  (yX11_go, RX11, cX11_go, (some .int), 1),
  (yX11_undo, RX11, cX11_undo, (some .int), 1),
  (yX11_judge, RX11, cX11_judge, (some .int), 1),
  (yX11_verdict, RX11, cX11_verdict, (some .int), 1),
  (yX11_perform, RX11, cX11_perform, (some .int), 1),
  (yX11_winter, RX11, cX11_winter, (some .int), 1),
  (yX11_keptIfAny, RX11, cX11_keptIfAny, (some .int), 1),
  (yX11_heardBy, RX11, cX11_heardBy, (some .int), 1),
  (yX11_ear, RX11, cX11_ear, (some .int), 1),
  (yX11_needs, RX11, cX11_needs, (some .int), 1),
  (yX11_pieces, RX11, cX11_pieces, (some .int), 1),
  (yX11_listeners, RX11, cX11_listeners, (some .int), 1),
  (yX11_covered, RX11, cX11_covered, (some .int), 1),
  (yX11_reach, RX11, cX11_reach, (some .int), 1),
  (yX11_fewest, RX11, cX11_fewest, (some .int), 1),
  (yX11_way, RX11, cX11_way, (some .int), 1),
  (yX11_ways, RX11, cX11_ways, (some .long), 2),
  (yX11_full, RX11, cX11_full, (some .int), 1),
  (yX11_fullWay, RX11, cX11_fullWay, (some .int), 1),
  (yX11_placeOfWay, RX11, cX11_placeOfWay, (some .int), 1),
  (yX11_ends, RX11, cX11_ends, (some .int), 1),
  (yX11_forces, RX11, cX11_forces, (some .int), 1),
  (yX11_power, RX11, cX11_power, (some .int), 1),
  (yX11_best, RX11, cX11_best, (some .int), 1),
  (yX11_ally, RX11, cX11_ally, (some .int), 1),
  (yX11_tales, RX11, cX11_tales, (some .int), 1),
  (yX11_joins, RX11, cX11_joins, (some .int), 1),
  (yX11_joinBy, RX11, cX11_joinBy, (some .int), 1),
  (yX11_rows, RX11, cX11_rows, (some .long), 2)]
def gL4 : List mG := [(yX11_sureBit, RX11, cX11_sureBit, (some .int), 1),
  (yX11_takeSeen, RX11, cX11_takeSeen, (some .int), 1),
  (yX11_tellers, RX11, cX11_tellers, (some .long), 2),
  (yX11_teller, RX11, cX11_teller, (some .int), 1),
  (yX11_takeTold, RX11, cX11_takeTold, (some .int), 1),
  (yX11_better, RX11, cX11_better, (some .int), 1),
  (yX11_isBetter, RX11, cX11_isBetter, (some .boolean), 1),
  (yX11_fairest, RX11, cX11_fairest, (some .int), 1),
  (yX11_leastLiking, RX11, cX11_leastLiking, (some .int), 1),
  (yX11_snow, RX11, cX11_snow, (some .long), 2),
  (yX11_commonDivisor, RX11, cX11_commonDivisor, (some .long), 2),
  (yX11_left, RX11, cX11_left, (some .int), 1),
  (yX11_numbers, RX11, cX11_numbers, (some .int), 1),
  (yX11_write, RX11, cX11_write, (some .long), 2),
  (yX11_lists, RX11, cX11_lists, (some .int), 1),
  (yX11_image, RX11, cX11_image, (some .int), 1),
  (yX11_restore, RX11, cX11_restore, (some .int), 1),
  (yX11_count, RX11, cX11_count, (some .int), 1),
  (yX11_isTray, RX11, cX11_isTray, (some .boolean), 1),
  (yX11_areTwo, RX11, cX11_areTwo, (some .boolean), 1),
  (yX11_areMoments, RX11, cX11_areMoments, (some .boolean), 1),
  (yX11_wiresBetween, RX11, cX11_wiresBetween, (some .int), 1),
  (yX12_within, RX12, cX12_within, (some .boolean), 1),
  (yX12_init, RX12, cX12_init, none, 0),
  (yX12_plain, RX12, cX12_plain, none, 0),
  (yX12_feed, RX12, cX12_feed, (some .int), 1),
  (yX12_see, RX12, cX12_see, (some .int), 1),
  (yX12_isSmall, RX12, cX12_isSmall, (some .boolean), 1),
  (yX12_isDigit, RX12, cX12_isDigit, (some .boolean), 1),
  (yX12_keyAt, RX12, cX12_keyAt, (some .int), 1),
  (yX12_next, RX12, cX12_next, none, 0),
  (yX12_fails, RX12, cX12_fails, none, 0),
  (yX12_is, RX12, cX12_is, (some .boolean), 1),
  (yX12_eats, RX12, cX12_eats, (some .boolean), 1),
  (yX12_takes, RX12, cX12_takes, (some .int), 1),
  (yX12_isIn, RX12, cX12_isIn, (some .boolean), 1),
  (yX12_wordOf, RX12, cX12_wordOf, (some .int), 1),
  (yX12_codes, RX12, cX12_codes, none, 0),
  (yX12_goesIn, RX12, cX12_goesIn, (some .boolean), 1),
  (yX12_readAtom, RX12, cX12_readAtom, none, 0)]
def gL5 : List mG := [(yX12_readTerm, RX12, cX12_readTerm, none, 0),
  (yX12_readSum, RX12, cX12_readSum, none, 0),
  (yX12_readUnit, RX12, cX12_readUnit, none, 0),
  (yX12_readBoth, RX12, cX12_readBoth, none, 0),
  (yX12_readTruth, RX12, cX12_readTruth, none, 0),
  (yX12_readBit, RX12, cX12_readBit, none, 0),
  (yX12_readFlag, RX12, cX12_readFlag, (some .boolean), 1),
  (yX12_readFarm, RX12, cX12_readFarm, none, 0),
  (yX12_readSnow, RX12, cX12_readSnow, none, 0),
  (yX12_readLaw, RX12, cX12_readLaw, none, 0),
  (yX12_readLine, RX12, cX12_readLine, none, 0),
  (yX12_ends1, RX12, cX12_ends1, none, 0),
  (yX12_line, RX12, cX12_line, (some .int), 1),
  (yX12_fault, RX12, cX12_fault, (some .int), 1),
  (yX12_isFarm, RX12, cX12_isFarm, (some .boolean), 1),
  (yX12_isMoment, RX12, cX12_isMoment, (some .boolean), 1),
  (yX12_isBit, RX12, cX12_isBit, (some .boolean), 1),
  (yX12_isWire, RX12, cX12_isWire, (some .boolean), 1),
  (yX12_bitsOf, RX12, cX12_bitsOf, (some .int), 1),
  (yX12_between, RX12, cX12_between, (some .int), 1),
  (yX12_reckons, RX12, cX12_reckons, (some .int), 1),
  (yX12_mayTell, RX12, cX12_mayTell, (some .boolean), 1),
  (yX12_wiresOf, RX12, cX12_wiresOf, (some .int), 1),
  (yX12_hears, RX12, cX12_hears, (some .boolean), 1),
  (yX12_likesOf, RX12, cX12_likesOf, (some .int), 1),
  (yX12_heardOf, RX12, cX12_heardOf, (some .int), 1),
  (yX12_hearersOf, RX12, cX12_hearersOf, (some .int), 1),
  (yX12_whoMay, RX12, cX12_whoMay, (some .int), 1),
  (yX12_canTell, RX12, cX12_canTell, (some .int), 1),
  (yX12_farm, RX12, cX12_farm, (some .int), 1),
  (yX12_bit, RX12, cX12_bit, (some .int), 1),
  (yX12_wire, RX12, cX12_wire, (some .int), 1),
  (yX12_likes, RX12, cX12_likes, (some .int), 1),
  (yX12_keeps, RX12, cX12_keeps, none, 0),
  (yX12_isAgain, RX12, cX12_isAgain, none, 0),
  (yX12_notes, RX12, cX12_notes, none, 0),
  (yX12_whyTell, RX12, cX12_whyTell, (some .int), 1),
  (yX12_tells1, RX12, cX12_tells1, (some .int), 1),
  (yX12_goesTurn, RX12, cX12_goesTurn, (some .int), 1),
  (yX12_tell, RX12, cX12_tell, (some .int), 1)]
def gL6 : List mG := [(yX12_cut, RX12, cX12_cut, (some .int), 1),
  (yX12_mood, RX12, cX12_mood, (some .int), 1),
  (yX12_go, RX12, cX12_go, (some .int), 1),
  (yX12_undo, RX12, cX12_undo, (some .int), 1),
  (yX12_whyNot, RX12, cX12_whyNot, (some .int), 1),
  (yX12_does, RX12, cX12_does, none, 0),
  (yX12_goesDeeds, RX12, cX12_goesDeeds, (some .int), 1),
  (yX12_noTray, RX12, cX12_noTray, (some .int), 1),
  (yX12_talesNow, RX12, cX12_talesNow, (some .int), 1),
  (yX12_doubtsAll, RX12, cX12_doubtsAll, (some .int), 1),
  (yX12_judge, RX12, cX12_judge, (some .int), 1),
  (yX12_perform, RX12, cX12_perform, (some .int), 1),
  (yX12_draw, RX12, cX12_draw, (some .int), 1),
  (yX12_drawn, RX12, cX12_drawn, (some .int), 1),
  (yX12_winter, RX12, cX12_winter, (some .int), 1),
  (yX12_heardBy, RX12, cX12_heardBy, (some .int), 1),
  (yX12_ear, RX12, cX12_ear, (some .int), 1),
  (yX12_areTwo, RX12, cX12_areTwo, (some .boolean), 1),
  (yX12_needs, RX12, cX12_needs, (some .int), 1),
  (yX12_pieces, RX12, cX12_pieces, (some .int), 1),
  (yX12_listeners, RX12, cX12_listeners, (some .int), 1),
  (yX12_laysUsable, RX12, cX12_laysUsable, none, 0),
  (yX12_isFrom, RX12, cX12_isFrom, (some .boolean), 1),
  (yX12_reach, RX12, cX12_reach, (some .int), 1),
  (yX12_told, RX12, cX12_told, (some .int), 1),
  (yX12_laysStill, RX12, cX12_laysStill, none, 0),
  (yX12_laysFarm, RX12, cX12_laysFarm, (some .boolean), 1),
  (yX12_laysWay, RX12, cX12_laysWay, (some .int), 1),
  (yX12_areMoments, RX12, cX12_areMoments, (some .boolean), 1),
  (yX12_fewest, RX12, cX12_fewest, (some .int), 1),
  (yX12_wayAt, RX12, cX12_wayAt, (some .int), 1),
  (yX12_way, RX12, cX12_way, (some .int), 1),
  (yX12_goesRows, RX12, cX12_goesRows, none, 0),
  (yX12_beginsRows, RX12, cX12_beginsRows, none, 0),
  (yX12_ways, RX12, cX12_ways, (some .long), 2),
  (yX12_full, RX12, cX12_full, (some .int), 1),
  (yX12_fullWay, RX12, cX12_fullWay, (some .int), 1),
  (yX12_ends, RX12, cX12_ends, (some .int), 1),
  (yX12_turnOf, RX12, cX12_turnOf, (some .int), 1),
  (yX12_behind1, RX12, cX12_behind1, (some .int), 1)]
def gL7 : List mG := [(yX12_laysGame, RX12, cX12_laysGame, none, 0),
  (yX12_forcesBy, RX12, cX12_forcesBy, (some .int), 1),
  (yX12_forces, RX12, cX12_forces, (some .int), 1),
  (yX12_power, RX12, cX12_power, (some .int), 1),
  (yX12_best, RX12, cX12_best, (some .int), 1),
  (yX12_ally, RX12, cX12_ally, (some .int), 1),
  (yX12_tales, RX12, cX12_tales, (some .int), 1),
  (yX12_joined, RX12, cX12_joined, (some .int), 1),
  (yX12_deedOf, RX12, cX12_deedOf, (some .int), 1),
  (yX12_laysJoin, RX12, cX12_laysJoin, (some .int), 1),
  (yX12_isNearer, RX12, cX12_isNearer, (some .boolean), 1),
  (yX12_joins, RX12, cX12_joins, (some .int), 1),
  (yX12_joinBy, RX12, cX12_joinBy, (some .int), 1),
  (yX12_noRow, RX12, cX12_noRow, (some .int), 1),
  (yX12_noSeen, RX12, cX12_noSeen, (some .int), 1),
  (yX12_rowsBy, RX12, cX12_rowsBy, (some .long), 2),
  (yX12_rows, RX12, cX12_rows, (some .long), 2),
  (yX12_sureBit, RX12, cX12_sureBit, (some .int), 1),
  (yX12_tellersBy, RX12, cX12_tellersBy, (some .long), 2),
  (yX12_tellers, RX12, cX12_tellers, (some .long), 2),
  (yX12_teller, RX12, cX12_teller, (some .int), 1),
  (yX12_better, RX12, cX12_better, (some .int), 1),
  (yX12_leastLikes, RX12, cX12_leastLikes, (some .int), 1),
  (yX12_fairest, RX12, cX12_fairest, (some .int), 1),
  (yX12_tens, RX12, cX12_tens, (some .long), 2),
  (yX12_common, RX12, cX12_common, (some .long), 2),
  (yX12_wholeOf, RX12, cX12_wholeOf, (some .long), 2),
  (yX12_snow, RX12, cX12_snow, (some .long), 2),
  (yX12_left, RX12, cX12_left, (some .int), 1),
  (yX12_cut1, RX12, cX12_cut1, (some .long), 2),
  (yX12_numbers, RX12, cX12_numbers, (some .int), 1),
  (yX12_write, RX12, cX12_write, (some .long), 2),
  (yX12_lists, RX12, cX12_lists, (some .int), 1),
  (yX12_image, RX12, cX12_image, (some .int), 1),
  (yX12_restore, RX12, cX12_restore, (some .int), 1),
  (yX12_mustAll, RX12, cX12_mustAll, (some .int), 1),
  (yX12_count, RX12, cX12_count, (some .int), 1),
  (yJ6_numberOfTrailingZeros_0f7a4, RJ6, cJ6_numberOfTrailingZeros_0f7a4, (some .int), 1),
  (yJ6_bitCount_0f7a4, RJ6, cJ6_bitCount_0f7a4, (some .int), 1)]
def gnth : List mG → Nat → mG
  | [], _ => (yX0_init, RX0, cX0_init, none, 0)
  | w :: _, 0 => w
  | _ :: l, n + 1 => gnth l n
def gLs (c : Nat) : List mG := match c with
  | 0 => gL0
  | 1 => gL1
  | 2 => gL2
  | 3 => gL3
  | 4 => gL4
  | 5 => gL5
  | 6 => gL6
  | 7 => gL7
  | _ => []
def gG (k : Nat) : mG := gnth (gLs (k / 40)) (k % 40)
/-- of a method: its number, locals, kind (0 static, 1 of an object, 2 a maker), arguments, the places of its words -/
abbrev mF : Type := Nat × Nat × Nat × Nat × Nat × Nat × Nat × Nat
def MFc (q : mF) : Prop := match q with
  | (i, n, kd, pa, p0, p1, p2, p3) => tw p1 = some (bif Nat.beq kd 0 then Cond.static (gG i).1 else Cond.instanceMethod (gG i).1) ∧ (kd = 1 → tw p2 = some (Cond.selects (gG i).1.cls (gG i).1 (gG i).1)) ∧ tw p3 = some (Cond.initialized (gG i).1.cls) ∧ (parseMethodDescriptor (gG i).1.desc).map (fun d => d.parameters.length) = some pa ∧ ((gG i).1.cls ≠ "java/lang/invoke/MethodHandle" ∧ (gG i).1.cls ≠ "java/lang/invoke/VarHandle") ∧ n ≤ 80 ∧ (kd = 2 → (gG i).1.name = "<init>" ∧ (gG i).2.2.2.1 = none) ∧ plainName (gG i).1.cls = true ∧ (gG i).2.1 = (gG i).1.cls
def MFd (q : mF) : Prop := match q with
  | (i, n, _, _, p0, _, _, _) => tw p0 = some (Cond.code (gG i).1 (gG i).2.2.1 n (gG i).2.2.2.1)
def mFk0 : List mF := [(0, 2, 2, 1, 2129, 2128, 0, 1010), (1, 4, 1, 0, 5137, 5135, 5136, 1010), (2, 7, 1, 3, 5142, 5140, 5141, 1010), (3, 7, 1, 1, 5146, 5145, 41, 1010), (4, 4, 0, 4, 5150, 5149, 0, 1010), (5, 7, 1, 2, 5163, 5161, 5162, 1010), (6, 1, 2, 0, 1146, 1145, 0, 1004), (7, 3, 1, 2, 3182, 3180, 3181, 1004), (8, 1, 1, 0, 3186, 3185, 15, 1004), (9, 3, 1, 2, 3190, 3188, 3189, 1004), (10, 2, 1, 1, 3194, 3193, 16, 1004), (11, 2, 1, 1, 3198, 3197, 17, 1004), (12, 4, 1, 2, 3206, 3205, 19, 1004), (13, 2, 1, 1, 3210, 3209, 20, 1004), (14, 5, 1, 1, 3218, 3217, 21, 1004), (15, 2, 1, 1, 3230, 3229, 23, 1004), (16, 1, 1, 0, 3234, 3233, 24, 1004), (17, 2, 1, 1, 3202, 3201, 18, 1004), (18, 3, 1, 1, 3226, 3225, 22, 1004), (19, 1, 0, 1, 3221, 3220, 0, 1004)]
set_option maxRecDepth 20000 in
theorem mf_0 : ∀ q ∈ mFk0, MFc q := by unfold MFc; decide +kernel
set_option maxRecDepth 8000 in
theorem cw_19 : MFd (19, 1, 0, 1, 3221, 3220, 0, 1004) := rfl
set_option maxRecDepth 8000 in
theorem cw_18 : MFd (18, 3, 1, 1, 3226, 3225, 22, 1004) := rfl
set_option maxRecDepth 8000 in
theorem cw_17 : MFd (17, 2, 1, 1, 3202, 3201, 18, 1004) := rfl
set_option maxRecDepth 8000 in
theorem cw_16 : MFd (16, 1, 1, 0, 3234, 3233, 24, 1004) := rfl
set_option maxRecDepth 8000 in
theorem cw_15 : MFd (15, 2, 1, 1, 3230, 3229, 23, 1004) := rfl
set_option maxRecDepth 8000 in
theorem cw_14 : MFd (14, 5, 1, 1, 3218, 3217, 21, 1004) := rfl
set_option maxRecDepth 8000 in
theorem cw_13 : MFd (13, 2, 1, 1, 3210, 3209, 20, 1004) := rfl
set_option maxRecDepth 8000 in
theorem cw_12 : MFd (12, 4, 1, 2, 3206, 3205, 19, 1004) := rfl
set_option maxRecDepth 8000 in
theorem cw_11 : MFd (11, 2, 1, 1, 3198, 3197, 17, 1004) := rfl
set_option maxRecDepth 8000 in
theorem cw_10 : MFd (10, 2, 1, 1, 3194, 3193, 16, 1004) := rfl
set_option maxRecDepth 8000 in
theorem cw_9 : MFd (9, 3, 1, 2, 3190, 3188, 3189, 1004) := rfl
set_option maxRecDepth 8000 in
theorem cw_8 : MFd (8, 1, 1, 0, 3186, 3185, 15, 1004) := rfl
set_option maxRecDepth 8000 in
theorem cw_7 : MFd (7, 3, 1, 2, 3182, 3180, 3181, 1004) := rfl
set_option maxRecDepth 8000 in
theorem cw_6 : MFd (6, 1, 2, 0, 1146, 1145, 0, 1004) := rfl
set_option maxRecDepth 8000 in
theorem cw_5 : MFd (5, 7, 1, 2, 5163, 5161, 5162, 1010) := rfl
set_option maxRecDepth 8000 in
theorem cw_4 : MFd (4, 4, 0, 4, 5150, 5149, 0, 1010) := rfl
set_option maxRecDepth 8000 in
theorem cw_3 : MFd (3, 7, 1, 1, 5146, 5145, 41, 1010) := rfl
set_option maxRecDepth 8000 in
theorem cw_2 : MFd (2, 7, 1, 3, 5142, 5140, 5141, 1010) := rfl
set_option maxRecDepth 8000 in
theorem cw_1 : MFd (1, 4, 1, 0, 5137, 5135, 5136, 1010) := rfl
set_option maxRecDepth 8000 in
theorem cw_0 : MFd (0, 2, 2, 1, 2129, 2128, 0, 1010) := rfl
theorem md_0 : ∀ q ∈ mFk0, MFd q := List.forall_mem_cons.mpr ⟨cw_0, List.forall_mem_cons.mpr ⟨cw_1, List.forall_mem_cons.mpr ⟨cw_2, List.forall_mem_cons.mpr ⟨cw_3, List.forall_mem_cons.mpr ⟨cw_4, List.forall_mem_cons.mpr ⟨cw_5, List.forall_mem_cons.mpr ⟨cw_6, List.forall_mem_cons.mpr ⟨cw_7, List.forall_mem_cons.mpr ⟨cw_8, List.forall_mem_cons.mpr ⟨cw_9, List.forall_mem_cons.mpr ⟨cw_10, List.forall_mem_cons.mpr ⟨cw_11, List.forall_mem_cons.mpr ⟨cw_12, List.forall_mem_cons.mpr ⟨cw_13, List.forall_mem_cons.mpr ⟨cw_14, List.forall_mem_cons.mpr ⟨cw_15, List.forall_mem_cons.mpr ⟨cw_16, List.forall_mem_cons.mpr ⟨cw_17, List.forall_mem_cons.mpr ⟨cw_18, List.forall_mem_cons.mpr ⟨cw_19, fun _ h => absurd h List.not_mem_nil⟩⟩⟩⟩⟩⟩⟩⟩⟩⟩⟩⟩⟩⟩⟩⟩⟩⟩⟩⟩
def mFk1 : List mF := [(20, 1, 2, 0, 1040, 1039, 0, 1003), (21, 2, 1, 0, 3009, 3007, 3008, 1003), (22, 2, 1, 1, 4002, 4000, 4001, 1003), (23, 2, 1, 1, 3214, 3212, 3213, 1003), (24, 4, 1, 1, 4066, 4064, 4065, 1003), (25, 2, 2, 0, 2055, 2054, 0, 1007), (26, 2, 1, 1, 4113, 4111, 4112, 1007), (27, 3, 1, 0, 4117, 4116, 27, 1007), (28, 3, 1, 2, 4172, 4170, 4171, 1007), (29, 1, 1, 0, 4010, 4008, 4009, 1007), (30, 1, 2, 0, 1034, 1033, 0, 1002), (31, 5, 1, 2, 3002, 3000, 3001, 1002), (32, 1, 1, 0, 3138, 3137, 4, 1002), (33, 2, 1, 0, 3158, 3157, 9, 1002), (34, 1, 1, 0, 3154, 3153, 8, 1002), (35, 4, 1, 0, 3162, 3161, 10, 1002), (36, 5, 1, 0, 3166, 3165, 11, 1002), (37, 2, 1, 0, 3170, 3169, 12, 1002), (38, 3, 1, 0, 3174, 3173, 13, 1002), (39, 2, 1, 0, 3238, 3237, 25, 1002)]
set_option maxRecDepth 20000 in
theorem mf_1 : ∀ q ∈ mFk1, MFc q := by unfold MFc; decide +kernel
set_option maxRecDepth 8000 in
theorem cw_39 : MFd (39, 2, 1, 0, 3238, 3237, 25, 1002) := rfl
set_option maxRecDepth 8000 in
theorem cw_38 : MFd (38, 3, 1, 0, 3174, 3173, 13, 1002) := rfl
set_option maxRecDepth 8000 in
theorem cw_37 : MFd (37, 2, 1, 0, 3170, 3169, 12, 1002) := rfl
set_option maxRecDepth 8000 in
theorem cw_36 : MFd (36, 5, 1, 0, 3166, 3165, 11, 1002) := rfl
set_option maxRecDepth 8000 in
theorem cw_35 : MFd (35, 4, 1, 0, 3162, 3161, 10, 1002) := rfl
set_option maxRecDepth 8000 in
theorem cw_34 : MFd (34, 1, 1, 0, 3154, 3153, 8, 1002) := rfl
set_option maxRecDepth 8000 in
theorem cw_33 : MFd (33, 2, 1, 0, 3158, 3157, 9, 1002) := rfl
set_option maxRecDepth 8000 in
theorem cw_32 : MFd (32, 1, 1, 0, 3138, 3137, 4, 1002) := rfl
set_option maxRecDepth 8000 in
theorem cw_31 : MFd (31, 5, 1, 2, 3002, 3000, 3001, 1002) := rfl
set_option maxRecDepth 8000 in
theorem cw_30 : MFd (30, 1, 2, 0, 1034, 1033, 0, 1002) := rfl
set_option maxRecDepth 8000 in
theorem cw_29 : MFd (29, 1, 1, 0, 4010, 4008, 4009, 1007) := rfl
set_option maxRecDepth 8000 in
theorem cw_28 : MFd (28, 3, 1, 2, 4172, 4170, 4171, 1007) := rfl
set_option maxRecDepth 8000 in
theorem cw_27 : MFd (27, 3, 1, 0, 4117, 4116, 27, 1007) := rfl
set_option maxRecDepth 8000 in
theorem cw_26 : MFd (26, 2, 1, 1, 4113, 4111, 4112, 1007) := rfl
set_option maxRecDepth 8000 in
theorem cw_25 : MFd (25, 2, 2, 0, 2055, 2054, 0, 1007) := rfl
set_option maxRecDepth 8000 in
theorem cw_24 : MFd (24, 4, 1, 1, 4066, 4064, 4065, 1003) := rfl
set_option maxRecDepth 8000 in
theorem cw_23 : MFd (23, 2, 1, 1, 3214, 3212, 3213, 1003) := rfl
set_option maxRecDepth 8000 in
theorem cw_22 : MFd (22, 2, 1, 1, 4002, 4000, 4001, 1003) := rfl
set_option maxRecDepth 8000 in
theorem cw_21 : MFd (21, 2, 1, 0, 3009, 3007, 3008, 1003) := rfl
set_option maxRecDepth 8000 in
theorem cw_20 : MFd (20, 1, 2, 0, 1040, 1039, 0, 1003) := rfl
theorem md_1 : ∀ q ∈ mFk1, MFd q := List.forall_mem_cons.mpr ⟨cw_20, List.forall_mem_cons.mpr ⟨cw_21, List.forall_mem_cons.mpr ⟨cw_22, List.forall_mem_cons.mpr ⟨cw_23, List.forall_mem_cons.mpr ⟨cw_24, List.forall_mem_cons.mpr ⟨cw_25, List.forall_mem_cons.mpr ⟨cw_26, List.forall_mem_cons.mpr ⟨cw_27, List.forall_mem_cons.mpr ⟨cw_28, List.forall_mem_cons.mpr ⟨cw_29, List.forall_mem_cons.mpr ⟨cw_30, List.forall_mem_cons.mpr ⟨cw_31, List.forall_mem_cons.mpr ⟨cw_32, List.forall_mem_cons.mpr ⟨cw_33, List.forall_mem_cons.mpr ⟨cw_34, List.forall_mem_cons.mpr ⟨cw_35, List.forall_mem_cons.mpr ⟨cw_36, List.forall_mem_cons.mpr ⟨cw_37, List.forall_mem_cons.mpr ⟨cw_38, List.forall_mem_cons.mpr ⟨cw_39, fun _ h => absurd h List.not_mem_nil⟩⟩⟩⟩⟩⟩⟩⟩⟩⟩⟩⟩⟩⟩⟩⟩⟩⟩⟩⟩
def mFk2 : List mF := [(40, 4, 1, 1, 3178, 3177, 14, 1002), (41, 2, 1, 1, 3142, 3141, 5, 1002), (42, 4, 1, 2, 3150, 3149, 7, 1002), (43, 2, 1, 1, 3146, 3145, 6, 1002), (44, 3, 1, 0, 3013, 3012, 1, 1002), (45, 6, 1, 0, 3020, 3019, 2, 1002), (46, 2, 1, 0, 3076, 3075, 3, 1002), (47, 1, 0, 1, 3016, 3015, 0, 1002), (48, 1, 0, 1, 3072, 3071, 0, 1002), (49, 2, 2, 1, 2148, 2147, 0, 1011), (50, 7, 1, 3, 5218, 5216, 5217, 1011), (51, 2, 1, 1, 6005, 6003, 6004, 1011), (52, 3, 1, 2, 5229, 5228, 47, 1011), (53, 5, 1, 1, 5225, 5223, 5224, 1011), (54, 2, 1, 0, 5233, 5232, 48, 1011), (55, 4, 1, 0, 5237, 5236, 49, 1011), (56, 8, 1, 2, 6009, 6007, 6008, 1011), (57, 7, 1, 1, 6013, 6012, 50, 1011), (58, 7, 1, 0, 6029, 6027, 6028, 1011), (59, 5, 1, 1, 6038, 6036, 6037, 1011)]
set_option maxRecDepth 20000 in
theorem mf_2 : ∀ q ∈ mFk2, MFc q := by unfold MFc; decide +kernel
set_option maxRecDepth 8000 in
theorem cw_59 : MFd (59, 5, 1, 1, 6038, 6036, 6037, 1011) := rfl
set_option maxRecDepth 8000 in
theorem cw_58 : MFd (58, 7, 1, 0, 6029, 6027, 6028, 1011) := rfl
set_option maxRecDepth 8000 in
theorem cw_57 : MFd (57, 7, 1, 1, 6013, 6012, 50, 1011) := rfl
set_option maxRecDepth 8000 in
theorem cw_56 : MFd (56, 8, 1, 2, 6009, 6007, 6008, 1011) := rfl
set_option maxRecDepth 8000 in
theorem cw_55 : MFd (55, 4, 1, 0, 5237, 5236, 49, 1011) := rfl
set_option maxRecDepth 8000 in
theorem cw_54 : MFd (54, 2, 1, 0, 5233, 5232, 48, 1011) := rfl
set_option maxRecDepth 8000 in
theorem cw_53 : MFd (53, 5, 1, 1, 5225, 5223, 5224, 1011) := rfl
set_option maxRecDepth 8000 in
theorem cw_52 : MFd (52, 3, 1, 2, 5229, 5228, 47, 1011) := rfl
set_option maxRecDepth 8000 in
theorem cw_51 : MFd (51, 2, 1, 1, 6005, 6003, 6004, 1011) := rfl
set_option maxRecDepth 8000 in
theorem cw_50 : MFd (50, 7, 1, 3, 5218, 5216, 5217, 1011) := rfl
set_option maxRecDepth 8000 in
theorem cw_49 : MFd (49, 2, 2, 1, 2148, 2147, 0, 1011) := rfl
set_option maxRecDepth 8000 in
theorem cw_48 : MFd (48, 1, 0, 1, 3072, 3071, 0, 1002) := rfl
set_option maxRecDepth 8000 in
theorem cw_47 : MFd (47, 1, 0, 1, 3016, 3015, 0, 1002) := rfl
set_option maxRecDepth 8000 in
theorem cw_46 : MFd (46, 2, 1, 0, 3076, 3075, 3, 1002) := rfl
set_option maxRecDepth 8000 in
theorem cw_45 : MFd (45, 6, 1, 0, 3020, 3019, 2, 1002) := rfl
set_option maxRecDepth 8000 in
theorem cw_44 : MFd (44, 3, 1, 0, 3013, 3012, 1, 1002) := rfl
set_option maxRecDepth 8000 in
theorem cw_43 : MFd (43, 2, 1, 1, 3146, 3145, 6, 1002) := rfl
set_option maxRecDepth 8000 in
theorem cw_42 : MFd (42, 4, 1, 2, 3150, 3149, 7, 1002) := rfl
set_option maxRecDepth 8000 in
theorem cw_41 : MFd (41, 2, 1, 1, 3142, 3141, 5, 1002) := rfl
set_option maxRecDepth 8000 in
theorem cw_40 : MFd (40, 4, 1, 1, 3178, 3177, 14, 1002) := rfl
theorem md_2 : ∀ q ∈ mFk2, MFd q := List.forall_mem_cons.mpr ⟨cw_40, List.forall_mem_cons.mpr ⟨cw_41, List.forall_mem_cons.mpr ⟨cw_42, List.forall_mem_cons.mpr ⟨cw_43, List.forall_mem_cons.mpr ⟨cw_44, List.forall_mem_cons.mpr ⟨cw_45, List.forall_mem_cons.mpr ⟨cw_46, List.forall_mem_cons.mpr ⟨cw_47, List.forall_mem_cons.mpr ⟨cw_48, List.forall_mem_cons.mpr ⟨cw_49, List.forall_mem_cons.mpr ⟨cw_50, List.forall_mem_cons.mpr ⟨cw_51, List.forall_mem_cons.mpr ⟨cw_52, List.forall_mem_cons.mpr ⟨cw_53, List.forall_mem_cons.mpr ⟨cw_54, List.forall_mem_cons.mpr ⟨cw_55, List.forall_mem_cons.mpr ⟨cw_56, List.forall_mem_cons.mpr ⟨cw_57, List.forall_mem_cons.mpr ⟨cw_58, List.forall_mem_cons.mpr ⟨cw_59, fun _ h => absurd h List.not_mem_nil⟩⟩⟩⟩⟩⟩⟩⟩⟩⟩⟩⟩⟩⟩⟩⟩⟩⟩⟩⟩
def mFk3 : List mF := [(60, 4, 0, 2, 6041, 6040, 0, 1011), (61, 1, 2, 0, 2082, 2081, 0, 1009), (62, 5, 1, 3, 5069, 5067, 5068, 1009), (63, 1, 1, 0, 5073, 5071, 5072, 1009), (64, 1, 1, 0, 5077, 5075, 5076, 1009), (65, 1, 1, 0, 5081, 5080, 38, 1009), (66, 4, 1, 3, 5089, 5087, 5088, 1009), (67, 4, 1, 0, 5093, 5091, 5092, 1009), (68, 4, 1, 1, 5105, 5103, 5104, 1009), (69, 1, 2, 0, 1226, 1225, 0, 1006), (70, 3, 1, 1, 2025, 2023, 2024, 1006), (71, 2, 1, 1, 4121, 4119, 4120, 1006), (72, 1, 2, 0, 2172, 2171, 0, 1012), (73, 1, 1, 0, 4183, 4181, 4182, 1012), (74, 4, 1, 2, 6087, 6085, 6086, 1012), (75, 2, 1, 1, 4192, 4190, 4191, 1012), (76, 6, 1, 2, 6097, 6095, 6096, 1012), (77, 3, 1, 1, 6101, 6100, 54, 1012), (78, 2, 2, 1, 2076, 2075, 0, 1008), (79, 7, 1, 1, 5041, 5039, 5040, 1008)]
set_option maxRecDepth 20000 in
theorem mf_3 : ∀ q ∈ mFk3, MFc q := by unfold MFc; decide +kernel
set_option maxRecDepth 8000 in
theorem cw_79 : MFd (79, 7, 1, 1, 5041, 5039, 5040, 1008) := rfl
set_option maxRecDepth 8000 in
theorem cw_78 : MFd (78, 2, 2, 1, 2076, 2075, 0, 1008) := rfl
set_option maxRecDepth 8000 in
theorem cw_77 : MFd (77, 3, 1, 1, 6101, 6100, 54, 1012) := rfl
set_option maxRecDepth 8000 in
theorem cw_76 : MFd (76, 6, 1, 2, 6097, 6095, 6096, 1012) := rfl
set_option maxRecDepth 8000 in
theorem cw_75 : MFd (75, 2, 1, 1, 4192, 4190, 4191, 1012) := rfl
set_option maxRecDepth 8000 in
theorem cw_74 : MFd (74, 4, 1, 2, 6087, 6085, 6086, 1012) := rfl
set_option maxRecDepth 8000 in
theorem cw_73 : MFd (73, 1, 1, 0, 4183, 4181, 4182, 1012) := rfl
set_option maxRecDepth 8000 in
theorem cw_72 : MFd (72, 1, 2, 0, 2172, 2171, 0, 1012) := rfl
set_option maxRecDepth 8000 in
theorem cw_71 : MFd (71, 2, 1, 1, 4121, 4119, 4120, 1006) := rfl
set_option maxRecDepth 8000 in
theorem cw_70 : MFd (70, 3, 1, 1, 2025, 2023, 2024, 1006) := rfl
set_option maxRecDepth 8000 in
theorem cw_69 : MFd (69, 1, 2, 0, 1226, 1225, 0, 1006) := rfl
set_option maxRecDepth 8000 in
theorem cw_68 : MFd (68, 4, 1, 1, 5105, 5103, 5104, 1009) := rfl
set_option maxRecDepth 8000 in
theorem cw_67 : MFd (67, 4, 1, 0, 5093, 5091, 5092, 1009) := rfl
set_option maxRecDepth 8000 in
theorem cw_66 : MFd (66, 4, 1, 3, 5089, 5087, 5088, 1009) := rfl
set_option maxRecDepth 8000 in
theorem cw_65 : MFd (65, 1, 1, 0, 5081, 5080, 38, 1009) := rfl
set_option maxRecDepth 8000 in
theorem cw_64 : MFd (64, 1, 1, 0, 5077, 5075, 5076, 1009) := rfl
set_option maxRecDepth 8000 in
theorem cw_63 : MFd (63, 1, 1, 0, 5073, 5071, 5072, 1009) := rfl
set_option maxRecDepth 8000 in
theorem cw_62 : MFd (62, 5, 1, 3, 5069, 5067, 5068, 1009) := rfl
set_option maxRecDepth 8000 in
theorem cw_61 : MFd (61, 1, 2, 0, 2082, 2081, 0, 1009) := rfl
set_option maxRecDepth 8000 in
theorem cw_60 : MFd (60, 4, 0, 2, 6041, 6040, 0, 1011) := rfl
theorem md_3 : ∀ q ∈ mFk3, MFd q := List.forall_mem_cons.mpr ⟨cw_60, List.forall_mem_cons.mpr ⟨cw_61, List.forall_mem_cons.mpr ⟨cw_62, List.forall_mem_cons.mpr ⟨cw_63, List.forall_mem_cons.mpr ⟨cw_64, List.forall_mem_cons.mpr ⟨cw_65, List.forall_mem_cons.mpr ⟨cw_66, List.forall_mem_cons.mpr ⟨cw_67, List.forall_mem_cons.mpr ⟨cw_68, List.forall_mem_cons.mpr ⟨cw_69, List.forall_mem_cons.mpr ⟨cw_70, List.forall_mem_cons.mpr ⟨cw_71, List.forall_mem_cons.mpr ⟨cw_72, List.forall_mem_cons.mpr ⟨cw_73, List.forall_mem_cons.mpr ⟨cw_74, List.forall_mem_cons.mpr ⟨cw_75, List.forall_mem_cons.mpr ⟨cw_76, List.forall_mem_cons.mpr ⟨cw_77, List.forall_mem_cons.mpr ⟨cw_78, List.forall_mem_cons.mpr ⟨cw_79, fun _ h => absurd h List.not_mem_nil⟩⟩⟩⟩⟩⟩⟩⟩⟩⟩⟩⟩⟩⟩⟩⟩⟩⟩⟩⟩
def mFk4 : List mF := [(80, 8, 1, 3, 5116, 5114, 5115, 1008), (81, 9, 1, 3, 5057, 5055, 5056, 1008), (82, 4, 1, 1, 5061, 5060, 36, 1008), (83, 6, 1, 1, 5065, 5064, 37, 1008), (84, 6, 1, 1, 5085, 5084, 39, 1008), (85, 13, 1, 2, 5182, 5180, 5181, 1008), (86, 8, 1, 4, 5194, 5193, 43, 1008), (87, 8, 1, 4, 5202, 5201, 45, 1008), (88, 4, 1, 3, 5198, 5197, 44, 1008), (89, 2, 1, 1, 5188, 5187, 42, 1008), (90, 1, 2, 0, 1218, 1217, 0, 1005), (91, 2, 1, 1, 4022, 4020, 4021, 1005), (92, 2, 1, 1, 4094, 4092, 4093, 1005), (93, 2, 1, 1, 4074, 4072, 4073, 1005), (94, 2, 1, 1, 4086, 4084, 4085, 1005), (95, 3, 1, 2, 4062, 4060, 4061, 1005), (96, 4, 1, 1, 4058, 4056, 4057, 1005), (97, 4, 1, 1, 4078, 4076, 4077, 1005), (98, 4, 1, 0, 5045, 5043, 5044, 1005), (99, 3, 1, 2, 4030, 4028, 4029, 1005)]
set_option maxRecDepth 20000 in
theorem mf_4 : ∀ q ∈ mFk4, MFc q := by unfold MFc; decide +kernel
set_option maxRecDepth 8000 in
theorem cw_99 : MFd (99, 3, 1, 2, 4030, 4028, 4029, 1005) := rfl
set_option maxRecDepth 8000 in
theorem cw_98 : MFd (98, 4, 1, 0, 5045, 5043, 5044, 1005) := rfl
set_option maxRecDepth 8000 in
theorem cw_97 : MFd (97, 4, 1, 1, 4078, 4076, 4077, 1005) := rfl
set_option maxRecDepth 8000 in
theorem cw_96 : MFd (96, 4, 1, 1, 4058, 4056, 4057, 1005) := rfl
set_option maxRecDepth 8000 in
theorem cw_95 : MFd (95, 3, 1, 2, 4062, 4060, 4061, 1005) := rfl
set_option maxRecDepth 8000 in
theorem cw_94 : MFd (94, 2, 1, 1, 4086, 4084, 4085, 1005) := rfl
set_option maxRecDepth 8000 in
theorem cw_93 : MFd (93, 2, 1, 1, 4074, 4072, 4073, 1005) := rfl
set_option maxRecDepth 8000 in
theorem cw_92 : MFd (92, 2, 1, 1, 4094, 4092, 4093, 1005) := rfl
set_option maxRecDepth 8000 in
theorem cw_91 : MFd (91, 2, 1, 1, 4022, 4020, 4021, 1005) := rfl
set_option maxRecDepth 8000 in
theorem cw_90 : MFd (90, 1, 2, 0, 1218, 1217, 0, 1005) := rfl
set_option maxRecDepth 8000 in
theorem cw_89 : MFd (89, 2, 1, 1, 5188, 5187, 42, 1008) := rfl
set_option maxRecDepth 8000 in
theorem cw_88 : MFd (88, 4, 1, 3, 5198, 5197, 44, 1008) := rfl
set_option maxRecDepth 8000 in
theorem cw_87 : MFd (87, 8, 1, 4, 5202, 5201, 45, 1008) := rfl
set_option maxRecDepth 8000 in
theorem cw_86 : MFd (86, 8, 1, 4, 5194, 5193, 43, 1008) := rfl
set_option maxRecDepth 8000 in
theorem cw_85 : MFd (85, 13, 1, 2, 5182, 5180, 5181, 1008) := rfl
set_option maxRecDepth 8000 in
theorem cw_84 : MFd (84, 6, 1, 1, 5085, 5084, 39, 1008) := rfl
set_option maxRecDepth 8000 in
theorem cw_83 : MFd (83, 6, 1, 1, 5065, 5064, 37, 1008) := rfl
set_option maxRecDepth 8000 in
theorem cw_82 : MFd (82, 4, 1, 1, 5061, 5060, 36, 1008) := rfl
set_option maxRecDepth 8000 in
theorem cw_81 : MFd (81, 9, 1, 3, 5057, 5055, 5056, 1008) := rfl
set_option maxRecDepth 8000 in
theorem cw_80 : MFd (80, 8, 1, 3, 5116, 5114, 5115, 1008) := rfl
theorem md_4 : ∀ q ∈ mFk4, MFd q := List.forall_mem_cons.mpr ⟨cw_80, List.forall_mem_cons.mpr ⟨cw_81, List.forall_mem_cons.mpr ⟨cw_82, List.forall_mem_cons.mpr ⟨cw_83, List.forall_mem_cons.mpr ⟨cw_84, List.forall_mem_cons.mpr ⟨cw_85, List.forall_mem_cons.mpr ⟨cw_86, List.forall_mem_cons.mpr ⟨cw_87, List.forall_mem_cons.mpr ⟨cw_88, List.forall_mem_cons.mpr ⟨cw_89, List.forall_mem_cons.mpr ⟨cw_90, List.forall_mem_cons.mpr ⟨cw_91, List.forall_mem_cons.mpr ⟨cw_92, List.forall_mem_cons.mpr ⟨cw_93, List.forall_mem_cons.mpr ⟨cw_94, List.forall_mem_cons.mpr ⟨cw_95, List.forall_mem_cons.mpr ⟨cw_96, List.forall_mem_cons.mpr ⟨cw_97, List.forall_mem_cons.mpr ⟨cw_98, List.forall_mem_cons.mpr ⟨cw_99, fun _ h => absurd h List.not_mem_nil⟩⟩⟩⟩⟩⟩⟩⟩⟩⟩⟩⟩⟩⟩⟩⟩⟩⟩⟩⟩
def mFk5 : List mF := [(100, 4, 1, 1, 4026, 4024, 4025, 1005), (101, 4, 1, 1, 5006, 5004, 5005, 1005), (102, 3, 1, 2, 4099, 4097, 4098, 1005), (103, 6, 1, 1, 4042, 4041, 26, 1005), (104, 7, 0, 3, 4046, 4045, 0, 1005), (105, 3, 1, 2, 4107, 4105, 4106, 1005), (106, 4, 1, 1, 4147, 4145, 4146, 1005), (107, 6, 1, 1, 4143, 4141, 4142, 1005), (108, 2, 1, 1, 4164, 4162, 4163, 1005), (109, 3, 1, 1, 4159, 4158, 28, 1005), (110, 5, 1, 2, 4126, 4124, 4125, 1005), (111, 3, 1, 1, 4188, 4186, 4187, 1005), (112, 5, 1, 2, 4229, 4227, 4228, 1005), (113, 3, 1, 0, 4233, 4232, 31, 1005), (114, 2, 1, 1, 4237, 4236, 32, 1005), (115, 3, 1, 0, 4203, 4201, 4202, 1005), (116, 3, 1, 0, 4213, 4211, 4212, 1005), (117, 7, 1, 2, 6066, 6064, 6065, 1005), (118, 6, 1, 2, 6070, 6068, 6069, 1005), (119, 2, 2, 0, 1026, 1025, 0, 1001)]
set_option maxRecDepth 20000 in
theorem mf_5 : ∀ q ∈ mFk5, MFc q := by unfold MFc; decide +kernel
set_option maxRecDepth 8000 in
theorem cw_119 : MFd (119, 2, 2, 0, 1026, 1025, 0, 1001) := rfl
set_option maxRecDepth 8000 in
theorem cw_118 : MFd (118, 6, 1, 2, 6070, 6068, 6069, 1005) := rfl
set_option maxRecDepth 8000 in
theorem cw_117 : MFd (117, 7, 1, 2, 6066, 6064, 6065, 1005) := rfl
set_option maxRecDepth 8000 in
theorem cw_116 : MFd (116, 3, 1, 0, 4213, 4211, 4212, 1005) := rfl
set_option maxRecDepth 8000 in
theorem cw_115 : MFd (115, 3, 1, 0, 4203, 4201, 4202, 1005) := rfl
set_option maxRecDepth 8000 in
theorem cw_114 : MFd (114, 2, 1, 1, 4237, 4236, 32, 1005) := rfl
set_option maxRecDepth 8000 in
theorem cw_113 : MFd (113, 3, 1, 0, 4233, 4232, 31, 1005) := rfl
set_option maxRecDepth 8000 in
theorem cw_112 : MFd (112, 5, 1, 2, 4229, 4227, 4228, 1005) := rfl
set_option maxRecDepth 8000 in
theorem cw_111 : MFd (111, 3, 1, 1, 4188, 4186, 4187, 1005) := rfl
set_option maxRecDepth 8000 in
theorem cw_110 : MFd (110, 5, 1, 2, 4126, 4124, 4125, 1005) := rfl
set_option maxRecDepth 8000 in
theorem cw_109 : MFd (109, 3, 1, 1, 4159, 4158, 28, 1005) := rfl
set_option maxRecDepth 8000 in
theorem cw_108 : MFd (108, 2, 1, 1, 4164, 4162, 4163, 1005) := rfl
set_option maxRecDepth 8000 in
theorem cw_107 : MFd (107, 6, 1, 1, 4143, 4141, 4142, 1005) := rfl
set_option maxRecDepth 8000 in
theorem cw_106 : MFd (106, 4, 1, 1, 4147, 4145, 4146, 1005) := rfl
set_option maxRecDepth 8000 in
theorem cw_105 : MFd (105, 3, 1, 2, 4107, 4105, 4106, 1005) := rfl
set_option maxRecDepth 8000 in
theorem cw_104 : MFd (104, 7, 0, 3, 4046, 4045, 0, 1005) := rfl
set_option maxRecDepth 8000 in
theorem cw_103 : MFd (103, 6, 1, 1, 4042, 4041, 26, 1005) := rfl
set_option maxRecDepth 8000 in
theorem cw_102 : MFd (102, 3, 1, 2, 4099, 4097, 4098, 1005) := rfl
set_option maxRecDepth 8000 in
theorem cw_101 : MFd (101, 4, 1, 1, 5006, 5004, 5005, 1005) := rfl
set_option maxRecDepth 8000 in
theorem cw_100 : MFd (100, 4, 1, 1, 4026, 4024, 4025, 1005) := rfl
theorem md_5 : ∀ q ∈ mFk5, MFd q := List.forall_mem_cons.mpr ⟨cw_100, List.forall_mem_cons.mpr ⟨cw_101, List.forall_mem_cons.mpr ⟨cw_102, List.forall_mem_cons.mpr ⟨cw_103, List.forall_mem_cons.mpr ⟨cw_104, List.forall_mem_cons.mpr ⟨cw_105, List.forall_mem_cons.mpr ⟨cw_106, List.forall_mem_cons.mpr ⟨cw_107, List.forall_mem_cons.mpr ⟨cw_108, List.forall_mem_cons.mpr ⟨cw_109, List.forall_mem_cons.mpr ⟨cw_110, List.forall_mem_cons.mpr ⟨cw_111, List.forall_mem_cons.mpr ⟨cw_112, List.forall_mem_cons.mpr ⟨cw_113, List.forall_mem_cons.mpr ⟨cw_114, List.forall_mem_cons.mpr ⟨cw_115, List.forall_mem_cons.mpr ⟨cw_116, List.forall_mem_cons.mpr ⟨cw_117, List.forall_mem_cons.mpr ⟨cw_118, List.forall_mem_cons.mpr ⟨cw_119, fun _ h => absurd h List.not_mem_nil⟩⟩⟩⟩⟩⟩⟩⟩⟩⟩⟩⟩⟩⟩⟩⟩⟩⟩⟩⟩
def mFk6 : List mF := [(120, 6, 1, 5, 2230, 2228, 2229, 1001), (121, 3, 1, 1, 2234, 2233, 0, 1001), (122, 3, 1, 1, 2238, 2236, 2237, 1001), (123, 2, 1, 1, 4014, 4012, 4013, 1001), (124, 3, 1, 2, 4018, 4016, 4017, 1001), (125, 3, 1, 2, 4070, 4068, 4069, 1001), (126, 3, 1, 2, 4082, 4080, 4081, 1001), (127, 3, 1, 2, 4090, 4088, 4089, 1001), (128, 4, 1, 2, 4103, 4101, 4102, 1001), (129, 2, 1, 1, 4130, 4128, 4129, 1001), (130, 4, 1, 2, 4134, 4132, 4133, 1001), (131, 4, 1, 1, 4138, 4136, 4137, 1001), (132, 2, 1, 1, 4168, 4166, 4167, 1001), (133, 5, 1, 2, 4176, 4174, 4175, 1001), (134, 5, 1, 3, 4197, 4196, 29, 1001), (135, 2, 1, 1, 4217, 4215, 4216, 1001), (136, 3, 1, 2, 4225, 4223, 4224, 1001), (137, 2, 1, 1, 4221, 4220, 30, 1001), (138, 2, 1, 1, 5002, 5000, 5001, 1001), (139, 5, 1, 0, 5010, 5008, 5009, 1001)]
set_option maxRecDepth 20000 in
theorem mf_6 : ∀ q ∈ mFk6, MFc q := by unfold MFc; decide +kernel
set_option maxRecDepth 8000 in
theorem cw_139 : MFd (139, 5, 1, 0, 5010, 5008, 5009, 1001) := rfl
set_option maxRecDepth 8000 in
theorem cw_138 : MFd (138, 2, 1, 1, 5002, 5000, 5001, 1001) := rfl
set_option maxRecDepth 8000 in
theorem cw_137 : MFd (137, 2, 1, 1, 4221, 4220, 30, 1001) := rfl
set_option maxRecDepth 8000 in
theorem cw_136 : MFd (136, 3, 1, 2, 4225, 4223, 4224, 1001) := rfl
set_option maxRecDepth 8000 in
theorem cw_135 : MFd (135, 2, 1, 1, 4217, 4215, 4216, 1001) := rfl
set_option maxRecDepth 8000 in
theorem cw_134 : MFd (134, 5, 1, 3, 4197, 4196, 29, 1001) := rfl
set_option maxRecDepth 8000 in
theorem cw_133 : MFd (133, 5, 1, 2, 4176, 4174, 4175, 1001) := rfl
set_option maxRecDepth 8000 in
theorem cw_132 : MFd (132, 2, 1, 1, 4168, 4166, 4167, 1001) := rfl
set_option maxRecDepth 8000 in
theorem cw_131 : MFd (131, 4, 1, 1, 4138, 4136, 4137, 1001) := rfl
set_option maxRecDepth 8000 in
theorem cw_130 : MFd (130, 4, 1, 2, 4134, 4132, 4133, 1001) := rfl
set_option maxRecDepth 8000 in
theorem cw_129 : MFd (129, 2, 1, 1, 4130, 4128, 4129, 1001) := rfl
set_option maxRecDepth 8000 in
theorem cw_128 : MFd (128, 4, 1, 2, 4103, 4101, 4102, 1001) := rfl
set_option maxRecDepth 8000 in
theorem cw_127 : MFd (127, 3, 1, 2, 4090, 4088, 4089, 1001) := rfl
set_option maxRecDepth 8000 in
theorem cw_126 : MFd (126, 3, 1, 2, 4082, 4080, 4081, 1001) := rfl
set_option maxRecDepth 8000 in
theorem cw_125 : MFd (125, 3, 1, 2, 4070, 4068, 4069, 1001) := rfl
set_option maxRecDepth 8000 in
theorem cw_124 : MFd (124, 3, 1, 2, 4018, 4016, 4017, 1001) := rfl
set_option maxRecDepth 8000 in
theorem cw_123 : MFd (123, 2, 1, 1, 4014, 4012, 4013, 1001) := rfl
set_option maxRecDepth 8000 in
theorem cw_122 : MFd (122, 3, 1, 1, 2238, 2236, 2237, 1001) := rfl
set_option maxRecDepth 8000 in
theorem cw_121 : MFd (121, 3, 1, 1, 2234, 2233, 0, 1001) := rfl
set_option maxRecDepth 8000 in
theorem cw_120 : MFd (120, 6, 1, 5, 2230, 2228, 2229, 1001) := rfl
theorem md_6 : ∀ q ∈ mFk6, MFd q := List.forall_mem_cons.mpr ⟨cw_120, List.forall_mem_cons.mpr ⟨cw_121, List.forall_mem_cons.mpr ⟨cw_122, List.forall_mem_cons.mpr ⟨cw_123, List.forall_mem_cons.mpr ⟨cw_124, List.forall_mem_cons.mpr ⟨cw_125, List.forall_mem_cons.mpr ⟨cw_126, List.forall_mem_cons.mpr ⟨cw_127, List.forall_mem_cons.mpr ⟨cw_128, List.forall_mem_cons.mpr ⟨cw_129, List.forall_mem_cons.mpr ⟨cw_130, List.forall_mem_cons.mpr ⟨cw_131, List.forall_mem_cons.mpr ⟨cw_132, List.forall_mem_cons.mpr ⟨cw_133, List.forall_mem_cons.mpr ⟨cw_134, List.forall_mem_cons.mpr ⟨cw_135, List.forall_mem_cons.mpr ⟨cw_136, List.forall_mem_cons.mpr ⟨cw_137, List.forall_mem_cons.mpr ⟨cw_138, List.forall_mem_cons.mpr ⟨cw_139, fun _ h => absurd h List.not_mem_nil⟩⟩⟩⟩⟩⟩⟩⟩⟩⟩⟩⟩⟩⟩⟩⟩⟩⟩⟩⟩
def mFk7 : List mF := [(140, 3, 1, 2, 5015, 5013, 5014, 1001), (141, 1, 1, 0, 5025, 5023, 5024, 1001), (142, 5, 1, 0, 5029, 5027, 5028, 1001), (143, 4, 1, 1, 5033, 5032, 34, 1001), (144, 2, 1, 1, 5037, 5035, 5036, 1001), (145, 3, 1, 2, 5049, 5047, 5048, 1001), (146, 4, 1, 3, 5097, 5095, 5096, 1001), (147, 4, 1, 3, 5110, 5108, 5109, 1001), (148, 3, 1, 2, 5120, 5118, 5119, 1001), (149, 4, 1, 3, 5124, 5122, 5123, 1001), (150, 5, 1, 4, 5101, 5100, 40, 1001), (151, 4, 1, 0, 5128, 5126, 5127, 1001), (152, 3, 1, 2, 5133, 5131, 5132, 1001), (153, 4, 1, 1, 5155, 5153, 5154, 1001), (154, 3, 1, 2, 5159, 5157, 5158, 1001), (155, 4, 1, 2, 5170, 5168, 5169, 1001), (156, 1, 1, 0, 5174, 5172, 5173, 1001), (157, 3, 1, 2, 5178, 5176, 5177, 1001), (158, 4, 1, 3, 5206, 5204, 5205, 1001), (159, 4, 1, 2, 5210, 5208, 5209, 1001)]
set_option maxRecDepth 20000 in
theorem mf_7 : ∀ q ∈ mFk7, MFc q := by unfold MFc; decide +kernel
set_option maxRecDepth 8000 in
theorem cw_159 : MFd (159, 4, 1, 2, 5210, 5208, 5209, 1001) := rfl
set_option maxRecDepth 8000 in
theorem cw_158 : MFd (158, 4, 1, 3, 5206, 5204, 5205, 1001) := rfl
set_option maxRecDepth 8000 in
theorem cw_157 : MFd (157, 3, 1, 2, 5178, 5176, 5177, 1001) := rfl
set_option maxRecDepth 8000 in
theorem cw_156 : MFd (156, 1, 1, 0, 5174, 5172, 5173, 1001) := rfl
set_option maxRecDepth 8000 in
theorem cw_155 : MFd (155, 4, 1, 2, 5170, 5168, 5169, 1001) := rfl
set_option maxRecDepth 8000 in
theorem cw_154 : MFd (154, 3, 1, 2, 5159, 5157, 5158, 1001) := rfl
set_option maxRecDepth 8000 in
theorem cw_153 : MFd (153, 4, 1, 1, 5155, 5153, 5154, 1001) := rfl
set_option maxRecDepth 8000 in
theorem cw_152 : MFd (152, 3, 1, 2, 5133, 5131, 5132, 1001) := rfl
set_option maxRecDepth 8000 in
theorem cw_151 : MFd (151, 4, 1, 0, 5128, 5126, 5127, 1001) := rfl
set_option maxRecDepth 8000 in
theorem cw_150 : MFd (150, 5, 1, 4, 5101, 5100, 40, 1001) := rfl
set_option maxRecDepth 8000 in
theorem cw_149 : MFd (149, 4, 1, 3, 5124, 5122, 5123, 1001) := rfl
set_option maxRecDepth 8000 in
theorem cw_148 : MFd (148, 3, 1, 2, 5120, 5118, 5119, 1001) := rfl
set_option maxRecDepth 8000 in
theorem cw_147 : MFd (147, 4, 1, 3, 5110, 5108, 5109, 1001) := rfl
set_option maxRecDepth 8000 in
theorem cw_146 : MFd (146, 4, 1, 3, 5097, 5095, 5096, 1001) := rfl
set_option maxRecDepth 8000 in
theorem cw_145 : MFd (145, 3, 1, 2, 5049, 5047, 5048, 1001) := rfl
set_option maxRecDepth 8000 in
theorem cw_144 : MFd (144, 2, 1, 1, 5037, 5035, 5036, 1001) := rfl
set_option maxRecDepth 8000 in
theorem cw_143 : MFd (143, 4, 1, 1, 5033, 5032, 34, 1001) := rfl
set_option maxRecDepth 8000 in
theorem cw_142 : MFd (142, 5, 1, 0, 5029, 5027, 5028, 1001) := rfl
set_option maxRecDepth 8000 in
theorem cw_141 : MFd (141, 1, 1, 0, 5025, 5023, 5024, 1001) := rfl
set_option maxRecDepth 8000 in
theorem cw_140 : MFd (140, 3, 1, 2, 5015, 5013, 5014, 1001) := rfl
theorem md_7 : ∀ q ∈ mFk7, MFd q := List.forall_mem_cons.mpr ⟨cw_140, List.forall_mem_cons.mpr ⟨cw_141, List.forall_mem_cons.mpr ⟨cw_142, List.forall_mem_cons.mpr ⟨cw_143, List.forall_mem_cons.mpr ⟨cw_144, List.forall_mem_cons.mpr ⟨cw_145, List.forall_mem_cons.mpr ⟨cw_146, List.forall_mem_cons.mpr ⟨cw_147, List.forall_mem_cons.mpr ⟨cw_148, List.forall_mem_cons.mpr ⟨cw_149, List.forall_mem_cons.mpr ⟨cw_150, List.forall_mem_cons.mpr ⟨cw_151, List.forall_mem_cons.mpr ⟨cw_152, List.forall_mem_cons.mpr ⟨cw_153, List.forall_mem_cons.mpr ⟨cw_154, List.forall_mem_cons.mpr ⟨cw_155, List.forall_mem_cons.mpr ⟨cw_156, List.forall_mem_cons.mpr ⟨cw_157, List.forall_mem_cons.mpr ⟨cw_158, List.forall_mem_cons.mpr ⟨cw_159, fun _ h => absurd h List.not_mem_nil⟩⟩⟩⟩⟩⟩⟩⟩⟩⟩⟩⟩⟩⟩⟩⟩⟩⟩⟩⟩
def mFk8 : List mF := [(160, 6, 1, 3, 6001, 5239, 6000, 1001), (161, 3, 1, 2, 5214, 5213, 46, 1001), (162, 3, 1, 1, 6021, 6019, 6020, 1001), (163, 4, 1, 2, 6034, 6032, 6033, 1001), (164, 2, 1, 1, 6025, 6024, 51, 1001), (165, 3, 1, 0, 6045, 6043, 6044, 1001), (166, 6, 1, 1, 6049, 6048, 52, 1001), (167, 3, 1, 0, 6053, 6051, 6052, 1001), (168, 4, 1, 1, 6057, 6056, 53, 1001), (169, 12, 1, 3, 6062, 6060, 6061, 1001), (170, 11, 0, 2, 6074, 6073, 0, 1001), (171, 5, 1, 2, 6078, 6076, 6077, 1001), (172, 4, 1, 3, 6083, 6081, 6082, 1001), (173, 6, 1, 3, 6091, 6089, 6090, 1001), (174, 8, 1, 3, 6105, 6103, 6104, 1001), (175, 2, 1, 1, 6109, 6107, 6108, 1001), (176, 2, 1, 1, 6114, 6112, 6113, 1001), (177, 2, 1, 1, 6118, 6116, 6117, 1001), (178, 1, 0, 1, 4179, 4178, 0, 1001), (179, 3, 1, 2, 5019, 5018, 33, 1001)]
set_option maxRecDepth 20000 in
theorem mf_8 : ∀ q ∈ mFk8, MFc q := by unfold MFc; decide +kernel
set_option maxRecDepth 8000 in
theorem cw_179 : MFd (179, 3, 1, 2, 5019, 5018, 33, 1001) := rfl
set_option maxRecDepth 8000 in
theorem cw_178 : MFd (178, 1, 0, 1, 4179, 4178, 0, 1001) := rfl
set_option maxRecDepth 8000 in
theorem cw_177 : MFd (177, 2, 1, 1, 6118, 6116, 6117, 1001) := rfl
set_option maxRecDepth 8000 in
theorem cw_176 : MFd (176, 2, 1, 1, 6114, 6112, 6113, 1001) := rfl
set_option maxRecDepth 8000 in
theorem cw_175 : MFd (175, 2, 1, 1, 6109, 6107, 6108, 1001) := rfl
set_option maxRecDepth 8000 in
theorem cw_174 : MFd (174, 8, 1, 3, 6105, 6103, 6104, 1001) := rfl
set_option maxRecDepth 8000 in
theorem cw_173 : MFd (173, 6, 1, 3, 6091, 6089, 6090, 1001) := rfl
set_option maxRecDepth 8000 in
theorem cw_172 : MFd (172, 4, 1, 3, 6083, 6081, 6082, 1001) := rfl
set_option maxRecDepth 8000 in
theorem cw_171 : MFd (171, 5, 1, 2, 6078, 6076, 6077, 1001) := rfl
set_option maxRecDepth 8000 in
theorem cw_170 : MFd (170, 11, 0, 2, 6074, 6073, 0, 1001) := rfl
set_option maxRecDepth 8000 in
theorem cw_169 : MFd (169, 12, 1, 3, 6062, 6060, 6061, 1001) := rfl
set_option maxRecDepth 8000 in
theorem cw_168 : MFd (168, 4, 1, 1, 6057, 6056, 53, 1001) := rfl
set_option maxRecDepth 8000 in
theorem cw_167 : MFd (167, 3, 1, 0, 6053, 6051, 6052, 1001) := rfl
set_option maxRecDepth 8000 in
theorem cw_166 : MFd (166, 6, 1, 1, 6049, 6048, 52, 1001) := rfl
set_option maxRecDepth 8000 in
theorem cw_165 : MFd (165, 3, 1, 0, 6045, 6043, 6044, 1001) := rfl
set_option maxRecDepth 8000 in
theorem cw_164 : MFd (164, 2, 1, 1, 6025, 6024, 51, 1001) := rfl
set_option maxRecDepth 8000 in
theorem cw_163 : MFd (163, 4, 1, 2, 6034, 6032, 6033, 1001) := rfl
set_option maxRecDepth 8000 in
theorem cw_162 : MFd (162, 3, 1, 1, 6021, 6019, 6020, 1001) := rfl
set_option maxRecDepth 8000 in
theorem cw_161 : MFd (161, 3, 1, 2, 5214, 5213, 46, 1001) := rfl
set_option maxRecDepth 8000 in
theorem cw_160 : MFd (160, 6, 1, 3, 6001, 5239, 6000, 1001) := rfl
theorem md_8 : ∀ q ∈ mFk8, MFd q := List.forall_mem_cons.mpr ⟨cw_160, List.forall_mem_cons.mpr ⟨cw_161, List.forall_mem_cons.mpr ⟨cw_162, List.forall_mem_cons.mpr ⟨cw_163, List.forall_mem_cons.mpr ⟨cw_164, List.forall_mem_cons.mpr ⟨cw_165, List.forall_mem_cons.mpr ⟨cw_166, List.forall_mem_cons.mpr ⟨cw_167, List.forall_mem_cons.mpr ⟨cw_168, List.forall_mem_cons.mpr ⟨cw_169, List.forall_mem_cons.mpr ⟨cw_170, List.forall_mem_cons.mpr ⟨cw_171, List.forall_mem_cons.mpr ⟨cw_172, List.forall_mem_cons.mpr ⟨cw_173, List.forall_mem_cons.mpr ⟨cw_174, List.forall_mem_cons.mpr ⟨cw_175, List.forall_mem_cons.mpr ⟨cw_176, List.forall_mem_cons.mpr ⟨cw_177, List.forall_mem_cons.mpr ⟨cw_178, List.forall_mem_cons.mpr ⟨cw_179, fun _ h => absurd h List.not_mem_nil⟩⟩⟩⟩⟩⟩⟩⟩⟩⟩⟩⟩⟩⟩⟩⟩⟩⟩⟩⟩
def mFk9 : List mF := [(180, 3, 1, 2, 5053, 5052, 35, 1001), (181, 2, 0, 2, 4033, 4032, 0, 1001), (182, 6, 0, 3, 7012, 7011, 0, 1013), (183, 1, 2, 0, 6123, 6122, 0, 1013), (184, 2, 0, 1, 6128, 6127, 0, 1013), (185, 8, 1, 5, 7005, 7003, 7004, 1013), (186, 2, 1, 1, 7020, 7019, 56, 1013), (187, 1, 0, 1, 7023, 7022, 0, 1013), (188, 1, 0, 1, 7033, 7032, 0, 1013), (189, 4, 1, 0, 7027, 7026, 57, 1013), (190, 2, 1, 0, 7016, 7015, 55, 1013), (191, 2, 1, 1, 7046, 7045, 60, 1013), (192, 2, 1, 1, 7042, 7041, 59, 1013), (193, 2, 1, 1, 7038, 7037, 58, 1013), (194, 4, 1, 2, 7050, 7049, 61, 1013), (195, 3, 0, 2, 7212, 7211, 0, 1013), (196, 2, 1, 1, 7100, 7099, 73, 1013), (197, 2, 1, 1, 7096, 7095, 72, 1013), (198, 2, 1, 1, 7104, 7103, 74, 1013), (199, 2, 1, 1, 7092, 7091, 71, 1013)]
set_option maxRecDepth 20000 in
theorem mf_9 : ∀ q ∈ mFk9, MFc q := by unfold MFc; decide +kernel
set_option maxRecDepth 8000 in
theorem cw_199 : MFd (199, 2, 1, 1, 7092, 7091, 71, 1013) := rfl
set_option maxRecDepth 8000 in
theorem cw_198 : MFd (198, 2, 1, 1, 7104, 7103, 74, 1013) := rfl
set_option maxRecDepth 8000 in
theorem cw_197 : MFd (197, 2, 1, 1, 7096, 7095, 72, 1013) := rfl
set_option maxRecDepth 8000 in
theorem cw_196 : MFd (196, 2, 1, 1, 7100, 7099, 73, 1013) := rfl
set_option maxRecDepth 8000 in
theorem cw_195 : MFd (195, 3, 0, 2, 7212, 7211, 0, 1013) := rfl
set_option maxRecDepth 8000 in
theorem cw_194 : MFd (194, 4, 1, 2, 7050, 7049, 61, 1013) := rfl
set_option maxRecDepth 8000 in
theorem cw_193 : MFd (193, 2, 1, 1, 7038, 7037, 58, 1013) := rfl
set_option maxRecDepth 8000 in
theorem cw_192 : MFd (192, 2, 1, 1, 7042, 7041, 59, 1013) := rfl
set_option maxRecDepth 8000 in
theorem cw_191 : MFd (191, 2, 1, 1, 7046, 7045, 60, 1013) := rfl
set_option maxRecDepth 8000 in
theorem cw_190 : MFd (190, 2, 1, 0, 7016, 7015, 55, 1013) := rfl
set_option maxRecDepth 8000 in
theorem cw_189 : MFd (189, 4, 1, 0, 7027, 7026, 57, 1013) := rfl
set_option maxRecDepth 8000 in
theorem cw_188 : MFd (188, 1, 0, 1, 7033, 7032, 0, 1013) := rfl
set_option maxRecDepth 8000 in
theorem cw_187 : MFd (187, 1, 0, 1, 7023, 7022, 0, 1013) := rfl
set_option maxRecDepth 8000 in
theorem cw_186 : MFd (186, 2, 1, 1, 7020, 7019, 56, 1013) := rfl
set_option maxRecDepth 8000 in
theorem cw_185 : MFd (185, 8, 1, 5, 7005, 7003, 7004, 1013) := rfl
set_option maxRecDepth 8000 in
theorem cw_184 : MFd (184, 2, 0, 1, 6128, 6127, 0, 1013) := rfl
set_option maxRecDepth 8000 in
theorem cw_183 : MFd (183, 1, 2, 0, 6123, 6122, 0, 1013) := rfl
set_option maxRecDepth 8000 in
theorem cw_182 : MFd (182, 6, 0, 3, 7012, 7011, 0, 1013) := rfl
set_option maxRecDepth 8000 in
theorem cw_181 : MFd (181, 2, 0, 2, 4033, 4032, 0, 1001) := rfl
set_option maxRecDepth 8000 in
theorem cw_180 : MFd (180, 3, 1, 2, 5053, 5052, 35, 1001) := rfl
theorem md_9 : ∀ q ∈ mFk9, MFd q := List.forall_mem_cons.mpr ⟨cw_180, List.forall_mem_cons.mpr ⟨cw_181, List.forall_mem_cons.mpr ⟨cw_182, List.forall_mem_cons.mpr ⟨cw_183, List.forall_mem_cons.mpr ⟨cw_184, List.forall_mem_cons.mpr ⟨cw_185, List.forall_mem_cons.mpr ⟨cw_186, List.forall_mem_cons.mpr ⟨cw_187, List.forall_mem_cons.mpr ⟨cw_188, List.forall_mem_cons.mpr ⟨cw_189, List.forall_mem_cons.mpr ⟨cw_190, List.forall_mem_cons.mpr ⟨cw_191, List.forall_mem_cons.mpr ⟨cw_192, List.forall_mem_cons.mpr ⟨cw_193, List.forall_mem_cons.mpr ⟨cw_194, List.forall_mem_cons.mpr ⟨cw_195, List.forall_mem_cons.mpr ⟨cw_196, List.forall_mem_cons.mpr ⟨cw_197, List.forall_mem_cons.mpr ⟨cw_198, List.forall_mem_cons.mpr ⟨cw_199, fun _ h => absurd h List.not_mem_nil⟩⟩⟩⟩⟩⟩⟩⟩⟩⟩⟩⟩⟩⟩⟩⟩⟩⟩⟩⟩
def mFk10 : List mF := [(200, 2, 1, 1, 7088, 7087, 70, 1013), (201, 3, 1, 1, 7084, 7083, 69, 1013), (202, 3, 1, 1, 7116, 7115, 77, 1013), (203, 2, 1, 1, 7112, 7111, 76, 1013), (204, 2, 1, 1, 7108, 7107, 75, 1013), (205, 5, 1, 0, 7062, 7061, 64, 1013), (206, 2, 1, 1, 7070, 7069, 66, 1013), (207, 2, 1, 0, 7066, 7065, 65, 1013), (208, 3, 1, 0, 7074, 7073, 67, 1013), (209, 3, 1, 1, 7080, 7079, 68, 1013), (210, 3, 1, 0, 7058, 7057, 63, 1013), (211, 1, 1, 0, 7054, 7053, 62, 1013), (212, 3, 1, 1, 7009, 7007, 7008, 1013), (213, 2, 1, 1, 7120, 7118, 7119, 1013), (214, 3, 1, 1, 7128, 7127, 78, 1013), (215, 3, 1, 1, 7184, 7183, 87, 1013), (216, 3, 1, 1, 7164, 7163, 84, 1013), (217, 3, 1, 1, 7176, 7175, 86, 1013), (218, 3, 0, 1, 7215, 7214, 0, 1013), (219, 5, 0, 3, 7146, 7145, 0, 1013)]
set_option maxRecDepth 20000 in
theorem mf_10 : ∀ q ∈ mFk10, MFc q := by unfold MFc; decide +kernel
set_option maxRecDepth 8000 in
theorem cw_219 : MFd (219, 5, 0, 3, 7146, 7145, 0, 1013) := rfl
set_option maxRecDepth 8000 in
theorem cw_218 : MFd (218, 3, 0, 1, 7215, 7214, 0, 1013) := rfl
set_option maxRecDepth 8000 in
theorem cw_217 : MFd (217, 3, 1, 1, 7176, 7175, 86, 1013) := rfl
set_option maxRecDepth 8000 in
theorem cw_216 : MFd (216, 3, 1, 1, 7164, 7163, 84, 1013) := rfl
set_option maxRecDepth 8000 in
theorem cw_215 : MFd (215, 3, 1, 1, 7184, 7183, 87, 1013) := rfl
set_option maxRecDepth 8000 in
theorem cw_214 : MFd (214, 3, 1, 1, 7128, 7127, 78, 1013) := rfl
set_option maxRecDepth 8000 in
theorem cw_213 : MFd (213, 2, 1, 1, 7120, 7118, 7119, 1013) := rfl
set_option maxRecDepth 8000 in
theorem cw_212 : MFd (212, 3, 1, 1, 7009, 7007, 7008, 1013) := rfl
set_option maxRecDepth 8000 in
theorem cw_211 : MFd (211, 1, 1, 0, 7054, 7053, 62, 1013) := rfl
set_option maxRecDepth 8000 in
theorem cw_210 : MFd (210, 3, 1, 0, 7058, 7057, 63, 1013) := rfl
set_option maxRecDepth 8000 in
theorem cw_209 : MFd (209, 3, 1, 1, 7080, 7079, 68, 1013) := rfl
set_option maxRecDepth 8000 in
theorem cw_208 : MFd (208, 3, 1, 0, 7074, 7073, 67, 1013) := rfl
set_option maxRecDepth 8000 in
theorem cw_207 : MFd (207, 2, 1, 0, 7066, 7065, 65, 1013) := rfl
set_option maxRecDepth 8000 in
theorem cw_206 : MFd (206, 2, 1, 1, 7070, 7069, 66, 1013) := rfl
set_option maxRecDepth 8000 in
theorem cw_205 : MFd (205, 5, 1, 0, 7062, 7061, 64, 1013) := rfl
set_option maxRecDepth 8000 in
theorem cw_204 : MFd (204, 2, 1, 1, 7108, 7107, 75, 1013) := rfl
set_option maxRecDepth 8000 in
theorem cw_203 : MFd (203, 2, 1, 1, 7112, 7111, 76, 1013) := rfl
set_option maxRecDepth 8000 in
theorem cw_202 : MFd (202, 3, 1, 1, 7116, 7115, 77, 1013) := rfl
set_option maxRecDepth 8000 in
theorem cw_201 : MFd (201, 3, 1, 1, 7084, 7083, 69, 1013) := rfl
set_option maxRecDepth 8000 in
theorem cw_200 : MFd (200, 2, 1, 1, 7088, 7087, 70, 1013) := rfl
theorem md_10 : ∀ q ∈ mFk10, MFd q := List.forall_mem_cons.mpr ⟨cw_200, List.forall_mem_cons.mpr ⟨cw_201, List.forall_mem_cons.mpr ⟨cw_202, List.forall_mem_cons.mpr ⟨cw_203, List.forall_mem_cons.mpr ⟨cw_204, List.forall_mem_cons.mpr ⟨cw_205, List.forall_mem_cons.mpr ⟨cw_206, List.forall_mem_cons.mpr ⟨cw_207, List.forall_mem_cons.mpr ⟨cw_208, List.forall_mem_cons.mpr ⟨cw_209, List.forall_mem_cons.mpr ⟨cw_210, List.forall_mem_cons.mpr ⟨cw_211, List.forall_mem_cons.mpr ⟨cw_212, List.forall_mem_cons.mpr ⟨cw_213, List.forall_mem_cons.mpr ⟨cw_214, List.forall_mem_cons.mpr ⟨cw_215, List.forall_mem_cons.mpr ⟨cw_216, List.forall_mem_cons.mpr ⟨cw_217, List.forall_mem_cons.mpr ⟨cw_218, List.forall_mem_cons.mpr ⟨cw_219, fun _ h => absurd h List.not_mem_nil⟩⟩⟩⟩⟩⟩⟩⟩⟩⟩⟩⟩⟩⟩⟩⟩⟩⟩⟩⟩
def mFk11 : List mF := [(220, 6, 1, 2, 7143, 7142, 81, 1013), (221, 3, 1, 2, 7156, 7155, 83, 1013), (222, 4, 0, 2, 7139, 7138, 0, 1013), (223, 3, 1, 2, 7136, 7135, 80, 1013), (224, 3, 1, 2, 7188, 7187, 88, 1013), (225, 4, 1, 1, 7132, 7131, 79, 1013), (226, 4, 1, 1, 7209, 7208, 92, 1013), (227, 4, 1, 1, 7168, 7167, 85, 1013), (228, 4, 1, 1, 7152, 7151, 82, 1013), (229, 3, 1, 2, 7124, 7122, 7123, 1013), (230, 3, 1, 2, 7160, 7158, 7159, 1013), (231, 3, 1, 2, 7172, 7170, 7171, 1013), (232, 3, 1, 2, 7180, 7178, 7179, 1013), (233, 2, 1, 0, 7201, 7200, 90, 1013), (234, 2, 1, 0, 8042, 8041, 101, 1013), (235, 2, 1, 0, 7219, 7218, 93, 1013), (236, 5, 1, 2, 7197, 7196, 89, 1013), (237, 5, 1, 2, 7205, 7204, 91, 1013), (238, 4, 1, 0, 7237, 7236, 94, 1013), (239, 5, 1, 2, 7193, 7191, 7192, 1013)]
set_option maxRecDepth 20000 in
theorem mf_11 : ∀ q ∈ mFk11, MFc q := by unfold MFc; decide +kernel
set_option maxRecDepth 8000 in
theorem cw_239 : MFd (239, 5, 1, 2, 7193, 7191, 7192, 1013) := rfl
set_option maxRecDepth 8000 in
theorem cw_238 : MFd (238, 4, 1, 0, 7237, 7236, 94, 1013) := rfl
set_option maxRecDepth 8000 in
theorem cw_237 : MFd (237, 5, 1, 2, 7205, 7204, 91, 1013) := rfl
set_option maxRecDepth 8000 in
theorem cw_236 : MFd (236, 5, 1, 2, 7197, 7196, 89, 1013) := rfl
set_option maxRecDepth 8000 in
theorem cw_235 : MFd (235, 2, 1, 0, 7219, 7218, 93, 1013) := rfl
set_option maxRecDepth 8000 in
theorem cw_234 : MFd (234, 2, 1, 0, 8042, 8041, 101, 1013) := rfl
set_option maxRecDepth 8000 in
theorem cw_233 : MFd (233, 2, 1, 0, 7201, 7200, 90, 1013) := rfl
set_option maxRecDepth 8000 in
theorem cw_232 : MFd (232, 3, 1, 2, 7180, 7178, 7179, 1013) := rfl
set_option maxRecDepth 8000 in
theorem cw_231 : MFd (231, 3, 1, 2, 7172, 7170, 7171, 1013) := rfl
set_option maxRecDepth 8000 in
theorem cw_230 : MFd (230, 3, 1, 2, 7160, 7158, 7159, 1013) := rfl
set_option maxRecDepth 8000 in
theorem cw_229 : MFd (229, 3, 1, 2, 7124, 7122, 7123, 1013) := rfl
set_option maxRecDepth 8000 in
theorem cw_228 : MFd (228, 4, 1, 1, 7152, 7151, 82, 1013) := rfl
set_option maxRecDepth 8000 in
theorem cw_227 : MFd (227, 4, 1, 1, 7168, 7167, 85, 1013) := rfl
set_option maxRecDepth 8000 in
theorem cw_226 : MFd (226, 4, 1, 1, 7209, 7208, 92, 1013) := rfl
set_option maxRecDepth 8000 in
theorem cw_225 : MFd (225, 4, 1, 1, 7132, 7131, 79, 1013) := rfl
set_option maxRecDepth 8000 in
theorem cw_224 : MFd (224, 3, 1, 2, 7188, 7187, 88, 1013) := rfl
set_option maxRecDepth 8000 in
theorem cw_223 : MFd (223, 3, 1, 2, 7136, 7135, 80, 1013) := rfl
set_option maxRecDepth 8000 in
theorem cw_222 : MFd (222, 4, 0, 2, 7139, 7138, 0, 1013) := rfl
set_option maxRecDepth 8000 in
theorem cw_221 : MFd (221, 3, 1, 2, 7156, 7155, 83, 1013) := rfl
set_option maxRecDepth 8000 in
theorem cw_220 : MFd (220, 6, 1, 2, 7143, 7142, 81, 1013) := rfl
theorem md_11 : ∀ q ∈ mFk11, MFd q := List.forall_mem_cons.mpr ⟨cw_220, List.forall_mem_cons.mpr ⟨cw_221, List.forall_mem_cons.mpr ⟨cw_222, List.forall_mem_cons.mpr ⟨cw_223, List.forall_mem_cons.mpr ⟨cw_224, List.forall_mem_cons.mpr ⟨cw_225, List.forall_mem_cons.mpr ⟨cw_226, List.forall_mem_cons.mpr ⟨cw_227, List.forall_mem_cons.mpr ⟨cw_228, List.forall_mem_cons.mpr ⟨cw_229, List.forall_mem_cons.mpr ⟨cw_230, List.forall_mem_cons.mpr ⟨cw_231, List.forall_mem_cons.mpr ⟨cw_232, List.forall_mem_cons.mpr ⟨cw_233, List.forall_mem_cons.mpr ⟨cw_234, List.forall_mem_cons.mpr ⟨cw_235, List.forall_mem_cons.mpr ⟨cw_236, List.forall_mem_cons.mpr ⟨cw_237, List.forall_mem_cons.mpr ⟨cw_238, List.forall_mem_cons.mpr ⟨cw_239, fun _ h => absurd h List.not_mem_nil⟩⟩⟩⟩⟩⟩⟩⟩⟩⟩⟩⟩⟩⟩⟩⟩⟩⟩⟩⟩
def mFk12 : List mF := [(240, 2, 1, 1, 7223, 7221, 7222, 1013), (241, 3, 1, 2, 7227, 7225, 7226, 1013), (242, 4, 1, 1, 7232, 7230, 7231, 1013), (243, 3, 1, 1, 8001, 7239, 8000, 1013), (244, 3, 1, 1, 8019, 8018, 97, 1013), (245, 2, 1, 1, 8030, 8029, 98, 1013), (246, 3, 1, 1, 8015, 8014, 96, 1013), (247, 2, 1, 1, 8011, 8010, 95, 1013), (248, 3, 1, 0, 8034, 8033, 99, 1013), (249, 3, 1, 0, 8038, 8037, 100, 1013), (250, 7, 1, 2, 8006, 8004, 8005, 1013), (251, 4, 1, 1, 8046, 8044, 8045, 1013), (252, 2, 1, 1, 8059, 8058, 103, 1013), (253, 3, 1, 0, 8055, 8054, 102, 1013), (254, 6, 1, 2, 8050, 8048, 8049, 1013), (255, 2, 1, 1, 8064, 8062, 8063, 1013), (256, 3, 1, 0, 8068, 8066, 8067, 1013), (257, 3, 1, 2, 8076, 8075, 104, 1013), (258, 3, 1, 2, 8072, 8070, 8071, 1013), (259, 1, 1, 0, 8080, 8078, 8079, 1013)]
set_option maxRecDepth 20000 in
theorem mf_12 : ∀ q ∈ mFk12, MFc q := by unfold MFc; decide +kernel
set_option maxRecDepth 8000 in
theorem cw_259 : MFd (259, 1, 1, 0, 8080, 8078, 8079, 1013) := rfl
set_option maxRecDepth 8000 in
theorem cw_258 : MFd (258, 3, 1, 2, 8072, 8070, 8071, 1013) := rfl
set_option maxRecDepth 8000 in
theorem cw_257 : MFd (257, 3, 1, 2, 8076, 8075, 104, 1013) := rfl
set_option maxRecDepth 8000 in
theorem cw_256 : MFd (256, 3, 1, 0, 8068, 8066, 8067, 1013) := rfl
set_option maxRecDepth 8000 in
theorem cw_255 : MFd (255, 2, 1, 1, 8064, 8062, 8063, 1013) := rfl
set_option maxRecDepth 8000 in
theorem cw_254 : MFd (254, 6, 1, 2, 8050, 8048, 8049, 1013) := rfl
set_option maxRecDepth 8000 in
theorem cw_253 : MFd (253, 3, 1, 0, 8055, 8054, 102, 1013) := rfl
set_option maxRecDepth 8000 in
theorem cw_252 : MFd (252, 2, 1, 1, 8059, 8058, 103, 1013) := rfl
set_option maxRecDepth 8000 in
theorem cw_251 : MFd (251, 4, 1, 1, 8046, 8044, 8045, 1013) := rfl
set_option maxRecDepth 8000 in
theorem cw_250 : MFd (250, 7, 1, 2, 8006, 8004, 8005, 1013) := rfl
set_option maxRecDepth 8000 in
theorem cw_249 : MFd (249, 3, 1, 0, 8038, 8037, 100, 1013) := rfl
set_option maxRecDepth 8000 in
theorem cw_248 : MFd (248, 3, 1, 0, 8034, 8033, 99, 1013) := rfl
set_option maxRecDepth 8000 in
theorem cw_247 : MFd (247, 2, 1, 1, 8011, 8010, 95, 1013) := rfl
set_option maxRecDepth 8000 in
theorem cw_246 : MFd (246, 3, 1, 1, 8015, 8014, 96, 1013) := rfl
set_option maxRecDepth 8000 in
theorem cw_245 : MFd (245, 2, 1, 1, 8030, 8029, 98, 1013) := rfl
set_option maxRecDepth 8000 in
theorem cw_244 : MFd (244, 3, 1, 1, 8019, 8018, 97, 1013) := rfl
set_option maxRecDepth 8000 in
theorem cw_243 : MFd (243, 3, 1, 1, 8001, 7239, 8000, 1013) := rfl
set_option maxRecDepth 8000 in
theorem cw_242 : MFd (242, 4, 1, 1, 7232, 7230, 7231, 1013) := rfl
set_option maxRecDepth 8000 in
theorem cw_241 : MFd (241, 3, 1, 2, 7227, 7225, 7226, 1013) := rfl
set_option maxRecDepth 8000 in
theorem cw_240 : MFd (240, 2, 1, 1, 7223, 7221, 7222, 1013) := rfl
theorem md_12 : ∀ q ∈ mFk12, MFd q := List.forall_mem_cons.mpr ⟨cw_240, List.forall_mem_cons.mpr ⟨cw_241, List.forall_mem_cons.mpr ⟨cw_242, List.forall_mem_cons.mpr ⟨cw_243, List.forall_mem_cons.mpr ⟨cw_244, List.forall_mem_cons.mpr ⟨cw_245, List.forall_mem_cons.mpr ⟨cw_246, List.forall_mem_cons.mpr ⟨cw_247, List.forall_mem_cons.mpr ⟨cw_248, List.forall_mem_cons.mpr ⟨cw_249, List.forall_mem_cons.mpr ⟨cw_250, List.forall_mem_cons.mpr ⟨cw_251, List.forall_mem_cons.mpr ⟨cw_252, List.forall_mem_cons.mpr ⟨cw_253, List.forall_mem_cons.mpr ⟨cw_254, List.forall_mem_cons.mpr ⟨cw_255, List.forall_mem_cons.mpr ⟨cw_256, List.forall_mem_cons.mpr ⟨cw_257, List.forall_mem_cons.mpr ⟨cw_258, List.forall_mem_cons.mpr ⟨cw_259, fun _ h => absurd h List.not_mem_nil⟩⟩⟩⟩⟩⟩⟩⟩⟩⟩⟩⟩⟩⟩⟩⟩⟩⟩⟩⟩
def mFk13 : List mF := [(260, 6, 1, 0, 8084, 8082, 8083, 1013), (261, 2, 1, 0, 8092, 8091, 105, 1013), (262, 3, 1, 2, 8117, 8116, 110, 1013), (263, 5, 1, 1, 8088, 8086, 8087, 1013), (264, 3, 1, 2, 8121, 8120, 111, 1013), (265, 5, 1, 2, 8108, 8107, 108, 1013), (266, 7, 1, 1, 8113, 8112, 109, 1013), (267, 9, 1, 3, 8104, 8103, 107, 1013), (268, 3, 1, 2, 8100, 8099, 106, 1013), (269, 3, 1, 2, 8096, 8094, 8095, 1013), (270, 6, 1, 4, 8129, 8128, 112, 1013), (271, 4, 1, 3, 8125, 8123, 8124, 1013), (272, 4, 1, 2, 8144, 8143, 114, 1013), (273, 3, 1, 1, 8140, 8139, 113, 1013), (274, 5, 1, 3, 8133, 8131, 8132, 1013), (275, 3, 1, 2, 8148, 8146, 8147, 1013), (276, 4, 1, 3, 8152, 8150, 8151, 1013), (277, 5, 1, 0, 8156, 8154, 8155, 1013), (278, 2, 0, 2, 8171, 8170, 0, 1013), (279, 8, 1, 3, 8175, 8174, 117, 1013)]
set_option maxRecDepth 20000 in
theorem mf_13 : ∀ q ∈ mFk13, MFc q := by unfold MFc; decide +kernel
set_option maxRecDepth 8000 in
theorem cw_279 : MFd (279, 8, 1, 3, 8175, 8174, 117, 1013) := rfl
set_option maxRecDepth 8000 in
theorem cw_278 : MFd (278, 2, 0, 2, 8171, 8170, 0, 1013) := rfl
set_option maxRecDepth 8000 in
theorem cw_277 : MFd (277, 5, 1, 0, 8156, 8154, 8155, 1013) := rfl
set_option maxRecDepth 8000 in
theorem cw_276 : MFd (276, 4, 1, 3, 8152, 8150, 8151, 1013) := rfl
set_option maxRecDepth 8000 in
theorem cw_275 : MFd (275, 3, 1, 2, 8148, 8146, 8147, 1013) := rfl
set_option maxRecDepth 8000 in
theorem cw_274 : MFd (274, 5, 1, 3, 8133, 8131, 8132, 1013) := rfl
set_option maxRecDepth 8000 in
theorem cw_273 : MFd (273, 3, 1, 1, 8140, 8139, 113, 1013) := rfl
set_option maxRecDepth 8000 in
theorem cw_272 : MFd (272, 4, 1, 2, 8144, 8143, 114, 1013) := rfl
set_option maxRecDepth 8000 in
theorem cw_271 : MFd (271, 4, 1, 3, 8125, 8123, 8124, 1013) := rfl
set_option maxRecDepth 8000 in
theorem cw_270 : MFd (270, 6, 1, 4, 8129, 8128, 112, 1013) := rfl
set_option maxRecDepth 8000 in
theorem cw_269 : MFd (269, 3, 1, 2, 8096, 8094, 8095, 1013) := rfl
set_option maxRecDepth 8000 in
theorem cw_268 : MFd (268, 3, 1, 2, 8100, 8099, 106, 1013) := rfl
set_option maxRecDepth 8000 in
theorem cw_267 : MFd (267, 9, 1, 3, 8104, 8103, 107, 1013) := rfl
set_option maxRecDepth 8000 in
theorem cw_266 : MFd (266, 7, 1, 1, 8113, 8112, 109, 1013) := rfl
set_option maxRecDepth 8000 in
theorem cw_265 : MFd (265, 5, 1, 2, 8108, 8107, 108, 1013) := rfl
set_option maxRecDepth 8000 in
theorem cw_264 : MFd (264, 3, 1, 2, 8121, 8120, 111, 1013) := rfl
set_option maxRecDepth 8000 in
theorem cw_263 : MFd (263, 5, 1, 1, 8088, 8086, 8087, 1013) := rfl
set_option maxRecDepth 8000 in
theorem cw_262 : MFd (262, 3, 1, 2, 8117, 8116, 110, 1013) := rfl
set_option maxRecDepth 8000 in
theorem cw_261 : MFd (261, 2, 1, 0, 8092, 8091, 105, 1013) := rfl
set_option maxRecDepth 8000 in
theorem cw_260 : MFd (260, 6, 1, 0, 8084, 8082, 8083, 1013) := rfl
theorem md_13 : ∀ q ∈ mFk13, MFd q := List.forall_mem_cons.mpr ⟨cw_260, List.forall_mem_cons.mpr ⟨cw_261, List.forall_mem_cons.mpr ⟨cw_262, List.forall_mem_cons.mpr ⟨cw_263, List.forall_mem_cons.mpr ⟨cw_264, List.forall_mem_cons.mpr ⟨cw_265, List.forall_mem_cons.mpr ⟨cw_266, List.forall_mem_cons.mpr ⟨cw_267, List.forall_mem_cons.mpr ⟨cw_268, List.forall_mem_cons.mpr ⟨cw_269, List.forall_mem_cons.mpr ⟨cw_270, List.forall_mem_cons.mpr ⟨cw_271, List.forall_mem_cons.mpr ⟨cw_272, List.forall_mem_cons.mpr ⟨cw_273, List.forall_mem_cons.mpr ⟨cw_274, List.forall_mem_cons.mpr ⟨cw_275, List.forall_mem_cons.mpr ⟨cw_276, List.forall_mem_cons.mpr ⟨cw_277, List.forall_mem_cons.mpr ⟨cw_278, List.forall_mem_cons.mpr ⟨cw_279, fun _ h => absurd h List.not_mem_nil⟩⟩⟩⟩⟩⟩⟩⟩⟩⟩⟩⟩⟩⟩⟩⟩⟩⟩⟩⟩
def mFk14 : List mF := [(280, 7, 1, 2, 8168, 8167, 116, 1013), (281, 5, 1, 3, 8164, 8163, 115, 1013), (282, 3, 1, 2, 8160, 8158, 8159, 1013), (283, 4, 1, 1, 8179, 8177, 8178, 1013), (284, 5, 1, 2, 8183, 8181, 8182, 1013), (285, 4, 1, 2, 8187, 8185, 8186, 1013), (286, 1, 1, 0, 8191, 8189, 8190, 1013), (287, 11, 1, 4, 8207, 8206, 120, 1013), (288, 6, 1, 3, 8203, 8202, 119, 1013), (289, 8, 1, 2, 8199, 8198, 118, 1013), (290, 6, 1, 4, 8211, 8210, 121, 1013), (291, 3, 1, 2, 8195, 8193, 8194, 1013), (292, 5, 1, 3, 8215, 8213, 8214, 1013), (293, 7, 1, 2, 8227, 8226, 123, 1013), (294, 3, 1, 2, 8223, 8222, 122, 1013), (295, 8, 1, 4, 8232, 8231, 124, 1013), (296, 4, 1, 2, 8219, 8217, 8218, 1013), (297, 8, 1, 3, 8236, 8234, 8235, 1013), (298, 12, 1, 3, 9004, 9003, 125, 1013), (299, 3, 1, 1, 9000, 8238, 8239, 1013)]
set_option maxRecDepth 20000 in
theorem mf_14 : ∀ q ∈ mFk14, MFc q := by unfold MFc; decide +kernel
set_option maxRecDepth 8000 in
theorem cw_299 : MFd (299, 3, 1, 1, 9000, 8238, 8239, 1013) := rfl
set_option maxRecDepth 8000 in
theorem cw_298 : MFd (298, 12, 1, 3, 9004, 9003, 125, 1013) := rfl
set_option maxRecDepth 8000 in
theorem cw_297 : MFd (297, 8, 1, 3, 8236, 8234, 8235, 1013) := rfl
set_option maxRecDepth 8000 in
theorem cw_296 : MFd (296, 4, 1, 2, 8219, 8217, 8218, 1013) := rfl
set_option maxRecDepth 8000 in
theorem cw_295 : MFd (295, 8, 1, 4, 8232, 8231, 124, 1013) := rfl
set_option maxRecDepth 8000 in
theorem cw_294 : MFd (294, 3, 1, 2, 8223, 8222, 122, 1013) := rfl
set_option maxRecDepth 8000 in
theorem cw_293 : MFd (293, 7, 1, 2, 8227, 8226, 123, 1013) := rfl
set_option maxRecDepth 8000 in
theorem cw_292 : MFd (292, 5, 1, 3, 8215, 8213, 8214, 1013) := rfl
set_option maxRecDepth 8000 in
theorem cw_291 : MFd (291, 3, 1, 2, 8195, 8193, 8194, 1013) := rfl
set_option maxRecDepth 8000 in
theorem cw_290 : MFd (290, 6, 1, 4, 8211, 8210, 121, 1013) := rfl
set_option maxRecDepth 8000 in
theorem cw_289 : MFd (289, 8, 1, 2, 8199, 8198, 118, 1013) := rfl
set_option maxRecDepth 8000 in
theorem cw_288 : MFd (288, 6, 1, 3, 8203, 8202, 119, 1013) := rfl
set_option maxRecDepth 8000 in
theorem cw_287 : MFd (287, 11, 1, 4, 8207, 8206, 120, 1013) := rfl
set_option maxRecDepth 8000 in
theorem cw_286 : MFd (286, 1, 1, 0, 8191, 8189, 8190, 1013) := rfl
set_option maxRecDepth 8000 in
theorem cw_285 : MFd (285, 4, 1, 2, 8187, 8185, 8186, 1013) := rfl
set_option maxRecDepth 8000 in
theorem cw_284 : MFd (284, 5, 1, 2, 8183, 8181, 8182, 1013) := rfl
set_option maxRecDepth 8000 in
theorem cw_283 : MFd (283, 4, 1, 1, 8179, 8177, 8178, 1013) := rfl
set_option maxRecDepth 8000 in
theorem cw_282 : MFd (282, 3, 1, 2, 8160, 8158, 8159, 1013) := rfl
set_option maxRecDepth 8000 in
theorem cw_281 : MFd (281, 5, 1, 3, 8164, 8163, 115, 1013) := rfl
set_option maxRecDepth 8000 in
theorem cw_280 : MFd (280, 7, 1, 2, 8168, 8167, 116, 1013) := rfl
theorem md_14 : ∀ q ∈ mFk14, MFd q := List.forall_mem_cons.mpr ⟨cw_280, List.forall_mem_cons.mpr ⟨cw_281, List.forall_mem_cons.mpr ⟨cw_282, List.forall_mem_cons.mpr ⟨cw_283, List.forall_mem_cons.mpr ⟨cw_284, List.forall_mem_cons.mpr ⟨cw_285, List.forall_mem_cons.mpr ⟨cw_286, List.forall_mem_cons.mpr ⟨cw_287, List.forall_mem_cons.mpr ⟨cw_288, List.forall_mem_cons.mpr ⟨cw_289, List.forall_mem_cons.mpr ⟨cw_290, List.forall_mem_cons.mpr ⟨cw_291, List.forall_mem_cons.mpr ⟨cw_292, List.forall_mem_cons.mpr ⟨cw_293, List.forall_mem_cons.mpr ⟨cw_294, List.forall_mem_cons.mpr ⟨cw_295, List.forall_mem_cons.mpr ⟨cw_296, List.forall_mem_cons.mpr ⟨cw_297, List.forall_mem_cons.mpr ⟨cw_298, List.forall_mem_cons.mpr ⟨cw_299, fun _ h => absurd h List.not_mem_nil⟩⟩⟩⟩⟩⟩⟩⟩⟩⟩⟩⟩⟩⟩⟩⟩⟩⟩⟩⟩
def mFk15 : List mF := [(300, 6, 1, 2, 9008, 9006, 9007, 1013), (301, 6, 1, 0, 9012, 9010, 9011, 1013), (302, 4, 1, 1, 9020, 9019, 126, 1013), (303, 3, 1, 0, 9016, 9014, 9015, 1013), (304, 4, 0, 1, 9031, 9030, 0, 1013), (305, 4, 0, 2, 9034, 9033, 0, 1013), (306, 6, 1, 2, 9028, 9027, 127, 1013), (307, 10, 1, 3, 9024, 9022, 9023, 1013), (308, 5, 1, 2, 9038, 9036, 9037, 1013), (309, 3, 0, 2, 9050, 9049, 0, 1013), (310, 5, 1, 3, 9042, 9040, 9041, 1013), (311, 6, 1, 3, 9046, 9044, 9045, 1013), (312, 8, 1, 3, 9054, 9052, 9053, 1013), (313, 3, 1, 1, 9058, 9056, 9057, 1013), (314, 3, 1, 1, 9062, 9060, 9061, 1013), (315, 3, 1, 0, 9070, 9069, 128, 1013), (316, 2, 1, 1, 9066, 9064, 9065, 1013), (317, 2, 0, 1, 6016, 6015, 0, 1021), (318, 1, 0, 1, 4206, 4205, 0, 1021)]
set_option maxRecDepth 20000 in
theorem mf_15 : ∀ q ∈ mFk15, MFc q := by unfold MFc; decide +kernel
set_option maxRecDepth 8000 in
theorem cw_318 : MFd (318, 1, 0, 1, 4206, 4205, 0, 1021) := rfl
set_option maxRecDepth 8000 in
theorem cw_317 : MFd (317, 2, 0, 1, 6016, 6015, 0, 1021) := rfl
set_option maxRecDepth 8000 in
theorem cw_316 : MFd (316, 2, 1, 1, 9066, 9064, 9065, 1013) := rfl
set_option maxRecDepth 8000 in
theorem cw_315 : MFd (315, 3, 1, 0, 9070, 9069, 128, 1013) := rfl
set_option maxRecDepth 8000 in
theorem cw_314 : MFd (314, 3, 1, 1, 9062, 9060, 9061, 1013) := rfl
set_option maxRecDepth 8000 in
theorem cw_313 : MFd (313, 3, 1, 1, 9058, 9056, 9057, 1013) := rfl
set_option maxRecDepth 8000 in
theorem cw_312 : MFd (312, 8, 1, 3, 9054, 9052, 9053, 1013) := rfl
set_option maxRecDepth 8000 in
theorem cw_311 : MFd (311, 6, 1, 3, 9046, 9044, 9045, 1013) := rfl
set_option maxRecDepth 8000 in
theorem cw_310 : MFd (310, 5, 1, 3, 9042, 9040, 9041, 1013) := rfl
set_option maxRecDepth 8000 in
theorem cw_309 : MFd (309, 3, 0, 2, 9050, 9049, 0, 1013) := rfl
set_option maxRecDepth 8000 in
theorem cw_308 : MFd (308, 5, 1, 2, 9038, 9036, 9037, 1013) := rfl
set_option maxRecDepth 8000 in
theorem cw_307 : MFd (307, 10, 1, 3, 9024, 9022, 9023, 1013) := rfl
set_option maxRecDepth 8000 in
theorem cw_306 : MFd (306, 6, 1, 2, 9028, 9027, 127, 1013) := rfl
set_option maxRecDepth 8000 in
theorem cw_305 : MFd (305, 4, 0, 2, 9034, 9033, 0, 1013) := rfl
set_option maxRecDepth 8000 in
theorem cw_304 : MFd (304, 4, 0, 1, 9031, 9030, 0, 1013) := rfl
set_option maxRecDepth 8000 in
theorem cw_303 : MFd (303, 3, 1, 0, 9016, 9014, 9015, 1013) := rfl
set_option maxRecDepth 8000 in
theorem cw_302 : MFd (302, 4, 1, 1, 9020, 9019, 126, 1013) := rfl
set_option maxRecDepth 8000 in
theorem cw_301 : MFd (301, 6, 1, 0, 9012, 9010, 9011, 1013) := rfl
set_option maxRecDepth 8000 in
theorem cw_300 : MFd (300, 6, 1, 2, 9008, 9006, 9007, 1013) := rfl
theorem md_15 : ∀ q ∈ mFk15, MFd q := List.forall_mem_cons.mpr ⟨cw_300, List.forall_mem_cons.mpr ⟨cw_301, List.forall_mem_cons.mpr ⟨cw_302, List.forall_mem_cons.mpr ⟨cw_303, List.forall_mem_cons.mpr ⟨cw_304, List.forall_mem_cons.mpr ⟨cw_305, List.forall_mem_cons.mpr ⟨cw_306, List.forall_mem_cons.mpr ⟨cw_307, List.forall_mem_cons.mpr ⟨cw_308, List.forall_mem_cons.mpr ⟨cw_309, List.forall_mem_cons.mpr ⟨cw_310, List.forall_mem_cons.mpr ⟨cw_311, List.forall_mem_cons.mpr ⟨cw_312, List.forall_mem_cons.mpr ⟨cw_313, List.forall_mem_cons.mpr ⟨cw_314, List.forall_mem_cons.mpr ⟨cw_315, List.forall_mem_cons.mpr ⟨cw_316, List.forall_mem_cons.mpr ⟨cw_317, List.forall_mem_cons.mpr ⟨cw_318, fun _ h => absurd h List.not_mem_nil⟩⟩⟩⟩⟩⟩⟩⟩⟩⟩⟩⟩⟩⟩⟩⟩⟩⟩⟩
def mFk : List mF := mFk0 ++ (mFk1 ++ (mFk2 ++ (mFk3 ++ (mFk4 ++ (mFk5 ++ (mFk6 ++ (mFk7 ++ (mFk8 ++ (mFk9 ++ (mFk10 ++ (mFk11 ++ (mFk12 ++ (mFk13 ++ (mFk14 ++ (mFk15)))))))))))))))
theorem mFk_ok : ∀ q ∈ mFk, MFc q := List.forall_mem_append.mpr ⟨mf_0, List.forall_mem_append.mpr ⟨mf_1, List.forall_mem_append.mpr ⟨mf_2, List.forall_mem_append.mpr ⟨mf_3, List.forall_mem_append.mpr ⟨mf_4, List.forall_mem_append.mpr ⟨mf_5, List.forall_mem_append.mpr ⟨mf_6, List.forall_mem_append.mpr ⟨mf_7, List.forall_mem_append.mpr ⟨mf_8, List.forall_mem_append.mpr ⟨mf_9, List.forall_mem_append.mpr ⟨mf_10, List.forall_mem_append.mpr ⟨mf_11, List.forall_mem_append.mpr ⟨mf_12, List.forall_mem_append.mpr ⟨mf_13, List.forall_mem_append.mpr ⟨mf_14, mf_15⟩⟩⟩⟩⟩⟩⟩⟩⟩⟩⟩⟩⟩⟩⟩
theorem mFk_cd : ∀ q ∈ mFk, MFd q := List.forall_mem_append.mpr ⟨md_0, List.forall_mem_append.mpr ⟨md_1, List.forall_mem_append.mpr ⟨md_2, List.forall_mem_append.mpr ⟨md_3, List.forall_mem_append.mpr ⟨md_4, List.forall_mem_append.mpr ⟨md_5, List.forall_mem_append.mpr ⟨md_6, List.forall_mem_append.mpr ⟨md_7, List.forall_mem_append.mpr ⟨md_8, List.forall_mem_append.mpr ⟨md_9, List.forall_mem_append.mpr ⟨md_10, List.forall_mem_append.mpr ⟨md_11, List.forall_mem_append.mpr ⟨md_12, List.forall_mem_append.mpr ⟨md_13, List.forall_mem_append.mpr ⟨md_14, md_15⟩⟩⟩⟩⟩⟩⟩⟩⟩⟩⟩⟩⟩⟩⟩
def nstW : List Cond := [(Jvm.Cond.methodLinkNest "PartyLine" (15 : Nat) ({ cls := "PartyLine$Reader", name := "<init>", desc := "()V" } : Jvm.MethodName) "PartyLine"),
  (Jvm.Cond.methodLinkNest "PartyLine$Reader" (11 : Nat) ({ cls := "PartyLine$Line", name := "<init>", desc := "()V" } : Jvm.MethodName) "PartyLine"),
  (Jvm.Cond.methodLinkNest "PartyLine$Reader" (24 : Nat) ({ cls := "PartyLine$LawReader", name := "<init>", desc := "()V" } : Jvm.MethodName) "PartyLine"),
  (Jvm.Cond.methodLinkNest "PartyLine$World" (11 : Nat) ({ cls := "PartyLine$Line", name := "<init>", desc := "()V" } : Jvm.MethodName) "PartyLine"),
  (Jvm.Cond.methodLinkNest "PartyLine$World" (20 : Nat) ({ cls := "PartyLine$State", name := "<init>", desc := "()V" } : Jvm.MethodName) "PartyLine"),
  (Jvm.Cond.methodLinkNest "PartyLine" (29 : Nat) ({ cls := "PartyLine$State", name := "<init>", desc := "()V" } : Jvm.MethodName) "PartyLine"),
  (Jvm.Cond.methodLinkNest "PartyLine$Past" (17 : Nat) ({ cls := "PartyLine$State", name := "<init>", desc := "()V" } : Jvm.MethodName) "PartyLine"),
  (Jvm.Cond.methodLinkNest "PartyLine$Ways" (11 : Nat) ({ cls := "PartyLine$Search", name := "<init>", desc := "()V" } : Jvm.MethodName) "PartyLine"),
  (Jvm.Cond.methodLinkNest "PartyLine" (84 : Nat) ({ cls := "PartyLine$Tray", name := "<init>", desc := "()V" } : Jvm.MethodName) "PartyLine"),
  (Jvm.Cond.methodLinkNest "PartyLine$World" (69 : Nat) ({ cls := "PartyLine", name := "wiresBetween", desc := "(II)I" } : Jvm.MethodName) "PartyLine"),
  (Jvm.Cond.methodLinkNest "PartyLine" (393 : Nat) ({ cls := "PartyLine$Line", name := "<init>", desc := "()V" } : Jvm.MethodName) "PartyLine")]
def mLk (o : Nat) : List ((Nat × Nat × Nat × Nat × Nat × Int) × Nat × Nat) := match o with
  | 0 => [((1, 40, 95, 3, 1, 10), 0, 5138), ((1, 59, 3, 2, 1, 0), 0, 5143), ((1, 72, 108, 2, 1, 10), 0, 5147), ((0, 78, 4, 4, 1, (-1)), 0, 5148), ((1, 82, 2, 4, 1, 0), 0, 5164), ((1, 86, 96, 2, 1, 10), 0, 5165), ((1, 89, 24, 2, 1, 2), 0, 5166)]
  | 1 => [((1, 50, 8, 1, 0, 1), 0, 3183), ((1, 59, 10, 2, 1, 1), 0, 3191), ((1, 63, 11, 2, 1, 1), 0, 3195), ((1, 67, 12, 3, 1, 1), 0, 3203), ((1, 71, 14, 2, 1, 1), 0, 3215), ((0, 74, 19, 1, 1, (-1)), 0, 3219), ((1, 82, 18, 2, 0, 1), 0, 3223), ((1, 86, 15, 2, 0, 1), 0, 3227), ((1, 89, 17, 2, 0, 1), 0, 3199), ((1, 92, 13, 2, 1, 1), 0, 3207), ((1, 95, 23, 2, 0, 2), 0, 3211), ((1, 98, 16, 1, 0, 1), 0, 3231)]
  | 2 => []
  | 3 => [((2, 17, 69, 1, 0, 7), 1, 6), ((1, 22, 27, 1, 0, 3), 0, 4114), ((1, 25, 71, 2, 0, 7), 0, 4118)]
  | 4 => [((2, 11, 20, 1, 0, 2), 1, 1), ((2, 24, 6, 1, 0, 1), 1, 2), ((1, 48, 21, 1, 0, 2), 0, 3006), ((1, 51, 44, 1, 0, 4), 0, 3010), ((1, 54, 32, 1, 1, 4), 0, 3135), ((1, 61, 33, 1, 1, 4), 0, 3155), ((1, 64, 41, 2, 1, 4), 0, 3139), ((1, 68, 42, 3, 1, 4), 0, 3147), ((1, 77, 34, 1, 1, 4), 0, 3151), ((1, 80, 35, 1, 1, 4), 0, 3159), ((1, 83, 36, 1, 1, 4), 0, 3163), ((1, 86, 37, 1, 1, 4), 0, 3167), ((1, 89, 38, 1, 1, 4), 0, 3171), ((1, 92, 40, 2, 1, 4), 0, 3175), ((1, 95, 39, 1, 1, 4), 0, 3235), ((1, 98, 43, 2, 1, 4), 0, 3143), ((1, 132, 7, 3, 0, 1), 0, 3179), ((1, 139, 9, 3, 1, 1), 0, 3187), ((0, 149, 47, 1, 1, (-1)), 0, 3014), ((1, 152, 45, 1, 0, 4), 0, 3017), ((0, 155, 48, 1, 1, (-1)), 0, 3070), ((1, 158, 46, 1, 0, 4), 0, 3073)]
  | 5 => [((1, 26, 73, 1, 1, 8), 0, 5219), ((1, 39, 75, 2, 2, 8), 0, 5220), ((1, 43, 98, 1, 1, 10), 0, 5221), ((1, 64, 52, 3, 1, 5), 0, 5226), ((1, 71, 54, 1, 0, 5), 0, 5230), ((1, 74, 55, 1, 2, 5), 0, 5234), ((1, 78, 57, 2, 1, 5), 0, 6010), ((1, 85, 97, 2, 1, 10), 0, 6030), ((0, 88, 60, 2, 1, (-1)), 0, 6039)]
  | 6 => [((1, 28, 65, 1, 1, 6), 0, 5078), ((1, 32, 67, 1, 1, 6), 0, 5106)]
  | 7 => []
  | 8 => [((1, 22, 77, 2, 2, 8), 0, 6098)]
  | 9 => [((2, 11, 61, 1, 0, 6), 1, 7), ((1, 45, 98, 1, 1, 10), 0, 5042), ((1, 61, 82, 2, 1, 9), 0, 5058), ((1, 65, 83, 2, 0, 9), 0, 5062), ((1, 69, 62, 4, 0, 6), 0, 5066), ((1, 73, 63, 1, 1, 6), 0, 5070), ((1, 76, 64, 1, 1, 6), 0, 5074), ((1, 79, 84, 2, 0, 9), 0, 5082), ((1, 82, 67, 1, 1, 6), 0, 5090), ((1, 85, 66, 4, 0, 6), 0, 5086), ((1, 106, 89, 2, 0, 9), 0, 5185), ((1, 109, 96, 2, 1, 10), 0, 5189), ((1, 112, 99, 3, 1, 10), 0, 5190), ((1, 116, 86, 5, 0, 9), 0, 5191), ((1, 120, 87, 5, 0, 9), 0, 5199), ((1, 123, 88, 4, 0, 9), 0, 5195)]
  | 10 => [((2, 11, 20, 1, 0, 2), 1, 3), ((2, 20, 69, 1, 0, 7), 1, 4), ((1, 32, 70, 2, 0, 7), 0, 2022), ((1, 58, 103, 2, 1, 10), 0, 4039), ((1, 62, 95, 3, 1, 10), 0, 4059), ((0, 69, 181, 2, 1, (-1)), 1, 9), ((1, 78, 99, 3, 1, 10), 0, 4027), ((0, 93, 104, 3, 1, (-1)), 0, 4044), ((1, 107, 91, 2, 1, 10), 0, 4108), ((1, 111, 93, 2, 1, 10), 0, 4109), ((1, 120, 105, 3, 1, 10), 0, 4150), ((1, 127, 94, 2, 1, 10), 0, 4153), ((1, 134, 106, 2, 1, 10), 0, 4144), ((1, 141, 109, 2, 1, 10), 0, 4156), ((1, 144, 110, 3, 1, 10), 0, 4160), ((1, 147, 108, 2, 1, 10), 0, 4161), ((1, 161, 75, 2, 2, 8), 0, 4189), ((1, 165, 107, 2, 1, 10), 0, 4193), ((1, 171, 113, 1, 1, 10), 0, 4230), ((1, 175, 114, 2, 1, 10), 0, 4234), ((0, 179, 318, 1, 1, (-1)), 0, 4204)]
  | 11 => [((2, 15, 30, 1, 0, 4), 1, 0), ((2, 22, 90, 1, 0, 10), 0, 1216), ((2, 29, 69, 1, 0, 7), 1, 5), ((2, 36, 25, 1, 0, 3), 0, 2053), ((2, 59, 78, 2, 0, 9), 0, 2074), ((2, 68, 0, 2, 0, 0), 0, 2127), ((2, 75, 49, 2, 0, 5), 0, 2146), ((2, 84, 72, 1, 0, 8), 1, 8), ((1, 89, 121, 2, 0, 11), 0, 2231), ((1, 93, 31, 3, 1, 4), 0, 2239), ((1, 104, 22, 2, 0, 2), 0, 3239), ((1, 111, 70, 2, 0, 7), 0, 4006), ((1, 114, 29, 1, 0, 3), 0, 4007), ((1, 126, 91, 2, 1, 10), 0, 4019), ((1, 142, 100, 2, 1, 10), 0, 4023), ((1, 146, 96, 2, 1, 10), 0, 4055), ((1, 149, 24, 2, 1, 2), 0, 4063), ((1, 152, 93, 2, 1, 10), 0, 4071), ((1, 164, 97, 2, 1, 10), 0, 4075), ((1, 167, 94, 2, 1, 10), 0, 4083), ((1, 176, 92, 2, 1, 10), 0, 4091), ((1, 180, 102, 3, 1, 10), 0, 4096), ((1, 184, 105, 3, 1, 10), 0, 4104), ((1, 187, 26, 2, 0, 3), 0, 4110), ((1, 191, 110, 3, 1, 10), 0, 4123), ((1, 199, 107, 2, 1, 10), 0, 4140), ((1, 206, 28, 3, 0, 3), 0, 4169), ((0, 210, 178, 1, 1, (-1)), 0, 4177), ((1, 213, 73, 1, 1, 8), 0, 4180), ((1, 217, 71, 2, 0, 7), 0, 4184), ((1, 219, 111, 2, 1, 10), 0, 4185), ((1, 223, 134, 4, 1, 11), 0, 4194), ((1, 230, 75, 2, 2, 8), 0, 4198), ((1, 234, 106, 2, 1, 10), 0, 4199), ((1, 237, 115, 1, 1, 10), 0, 4200), ((1, 241, 116, 1, 1, 10), 0, 4210), ((1, 244, 137, 2, 1, 11), 0, 4218), ((1, 247, 112, 3, 1, 10), 0, 4226), ((1, 250, 101, 2, 1, 10), 0, 5003), ((0, 256, 318, 1, 1, (-1)), 0, 5011), ((1, 261, 179, 3, 1, 11), 0, 5016), ((1, 265, 99, 3, 1, 10), 0, 5020), ((0, 268, 181, 2, 1, (-1)), 0, 5021), ((1, 271, 143, 2, 1, 11), 0, 5030), ((1, 274, 79, 2, 1, 9), 0, 5038), ((1, 277, 180, 3, 1, 11), 0, 5050), ((1, 280, 81, 4, 1, 9), 0, 5054), ((1, 284, 150, 5, 1, 11), 0, 5098), ((1, 292, 80, 4, 2, 9), 0, 5113), ((1, 300, 68, 2, 1, 6), 0, 5102), ((1, 305, 98, 1, 1, 10), 0, 5129), ((1, 313, 1, 1, 0, 0), 0, 5134), ((1, 316, 2, 4, 1, 0), 0, 5139), ((1, 322, 5, 3, 1, 0), 0, 5160), ((1, 325, 85, 3, 1, 9), 0, 5179), ((1, 328, 161, 3, 1, 11), 0, 5211), ((1, 331, 53, 2, 2, 5), 0, 5222), ((1, 334, 51, 2, 1, 5), 0, 6002), ((1, 337, 56, 3, 1, 5), 0, 6006), ((0, 340, 317, 1, 1, (-1)), 0, 6014), ((1, 343, 50, 4, 1, 5), 0, 5215), ((1, 346, 164, 2, 1, 11), 0, 6022), ((1, 349, 58, 1, 2, 5), 0, 6026), ((1, 353, 59, 2, 1, 5), 0, 6035), ((1, 356, 166, 2, 1, 11), 0, 6046), ((1, 359, 168, 2, 1, 11), 0, 6054), ((1, 368, 117, 3, 2, 10), 0, 6063), ((1, 372, 118, 3, 2, 10), 0, 6067), ((0, 375, 170, 2, 2, (-1)), 0, 6072), ((1, 381, 74, 3, 0, 8), 0, 6084), ((1, 389, 76, 3, 2, 8), 0, 6094), ((2, 393, 20, 1, 0, 2), 1, 10)]
  | 12 => [((0, 83, 184, 1, 0, (-1)), 0, 6126), ((1, 111, 186, 2, 1, 12), 0, 7017), ((0, 118, 187, 1, 1, (-1)), 0, 7021), ((1, 122, 189, 1, 1, 12), 0, 7024), ((0, 125, 188, 1, 1, (-1)), 0, 7031), ((1, 139, 192, 2, 1, 12), 0, 7039), ((1, 142, 190, 1, 0, 12), 0, 7013), ((1, 145, 191, 2, 0, 12), 0, 7043), ((0, 149, 182, 3, 1, (-1)), 0, 7010), ((1, 156, 197, 2, 0, 12), 0, 7093), ((1, 159, 196, 2, 1, 12), 0, 7097), ((1, 162, 198, 2, 1, 12), 0, 7101), ((1, 165, 201, 2, 0, 12), 0, 7081), ((1, 168, 193, 2, 1, 12), 0, 7035), ((1, 171, 199, 2, 0, 12), 0, 7089), ((1, 174, 200, 2, 0, 12), 0, 7085), ((1, 177, 202, 2, 0, 12), 0, 7113), ((1, 180, 204, 2, 0, 12), 0, 7105), ((1, 183, 203, 2, 0, 12), 0, 7109), ((1, 186, 194, 3, 1, 12), 0, 7047), ((1, 190, 206, 2, 1, 12), 0, 7067), ((1, 193, 205, 1, 0, 12), 0, 7059), ((1, 196, 207, 1, 0, 12), 0, 7063), ((1, 199, 208, 1, 0, 12), 0, 7071), ((1, 206, 209, 2, 0, 12), 0, 7077), ((1, 209, 211, 1, 0, 12), 0, 7051), ((1, 212, 210, 1, 0, 12), 0, 7055), ((0, 222, 219, 3, 1, (-1)), 0, 7144), ((1, 226, 220, 3, 1, 12), 0, 7140), ((0, 229, 222, 2, 1, (-1)), 0, 7137), ((1, 232, 223, 3, 1, 12), 0, 7133), ((1, 236, 221, 3, 1, 12), 0, 7153), ((1, 239, 214, 2, 1, 12), 0, 7125), ((1, 243, 225, 2, 1, 12), 0, 7129), ((1, 246, 228, 2, 1, 12), 0, 7149), ((1, 249, 216, 2, 1, 12), 0, 7161), ((1, 252, 227, 2, 1, 12), 0, 7165), ((1, 255, 217, 2, 1, 12), 0, 7173), ((1, 258, 215, 2, 1, 12), 0, 7181), ((1, 261, 224, 3, 1, 12), 0, 7185), ((1, 265, 226, 2, 1, 12), 0, 7206), ((0, 268, 195, 2, 1, (-1)), 0, 7210), ((0, 272, 218, 1, 1, (-1)), 0, 7213), ((1, 275, 237, 3, 1, 12), 0, 7202), ((1, 278, 236, 3, 1, 12), 0, 7194), ((1, 282, 233, 1, 0, 12), 0, 7198), ((1, 285, 235, 1, 0, 12), 0, 7216), ((1, 292, 238, 1, 1, 12), 0, 7234), ((1, 314, 244, 2, 1, 12), 0, 8016), ((1, 318, 245, 2, 0, 12), 0, 8027), ((1, 323, 247, 2, 1, 12), 0, 8008), ((1, 326, 246, 2, 1, 12), 0, 8012), ((1, 329, 248, 1, 1, 12), 0, 8031), ((1, 332, 249, 1, 1, 12), 0, 8035), ((1, 335, 234, 1, 0, 12), 0, 8039), ((1, 342, 252, 2, 1, 12), 0, 8056), ((1, 347, 253, 1, 1, 12), 0, 8052), ((1, 350, 257, 3, 1, 12), 0, 8073), ((1, 356, 261, 1, 0, 12), 0, 8089), ((1, 363, 266, 2, 1, 12), 0, 8110), ((1, 366, 262, 3, 1, 12), 0, 8114), ((1, 369, 264, 3, 1, 12), 0, 8118), ((1, 372, 265, 3, 0, 12), 0, 8105), ((1, 376, 268, 3, 1, 12), 0, 8097), ((1, 379, 267, 4, 1, 12), 0, 8101), ((1, 383, 270, 5, 1, 12), 0, 8126), ((1, 393, 273, 2, 0, 12), 0, 8137), ((1, 396, 272, 3, 0, 12), 0, 8141), ((0, 400, 278, 2, 1, (-1)), 0, 8169), ((1, 403, 279, 4, 1, 12), 0, 8172), ((1, 406, 280, 3, 0, 12), 0, 8165), ((1, 409, 281, 4, 1, 12), 0, 8161), ((1, 412, 288, 4, 1, 12), 0, 8200), ((1, 415, 287, 5, 1, 12), 0, 8204), ((1, 419, 290, 5, 1, 12), 0, 8208), ((1, 423, 289, 3, 1, 12), 0, 8196), ((1, 428, 293, 3, 1, 12), 0, 8224), ((1, 432, 294, 3, 1, 12), 0, 8220), ((1, 435, 295, 5, 2, 12), 0, 8229), ((1, 439, 298, 4, 2, 12), 0, 9001), ((1, 443, 302, 2, 1, 12), 0, 9017), ((0, 446, 305, 2, 2, (-1)), 0, 9032), ((1, 450, 306, 3, 2, 12), 0, 9025), ((0, 454, 304, 1, 2, (-1)), 0, 9029), ((0, 460, 309, 2, 2, (-1)), 0, 9048), ((1, 464, 315, 1, 1, 12), 0, 9067)]
  | _ => []
def MLc (o : Nat) (q : (Nat × Nat × Nat × Nat × Nat × Int) × Nat × Nat) : Prop := match q with
  | ((op, idx, k, n, c, cl), f, p) => ((f = 0 ∧ tw p = some (Cond.methodLink (oN o) idx (gG k).1)) ∨ (f = 1 ∧ tnth nstW p = some (Cond.methodLinkNest (oN o) idx (gG k).1 "PartyLine"))) ∧ c = (gG k).2.2.2.2 ∧ k < 319 ∧ ((op = 0 ∧ cl = -1) ∨ (op ≠ 0 ∧ 0 ≤ cl ∧ cl < 13 ∧ oN cl.toNat = (gG k).1.cls)) ∧ ∃ r ∈ mFk, r.1 = k ∧ r.2.2.1 = op ∧ n = (bif Nat.beq op 0 then r.2.2.2.1 else r.2.2.2.1 + 1)
set_option maxRecDepth 20000 in
theorem ml_0 : ∀ q ∈ mLk 0, MLc 0 q := by unfold MLc; decide +kernel
set_option maxRecDepth 20000 in
theorem ml_1 : ∀ q ∈ mLk 1, MLc 1 q := by unfold MLc; decide +kernel
set_option maxRecDepth 20000 in
theorem ml_2 : ∀ q ∈ mLk 2, MLc 2 q := by unfold MLc; decide +kernel
set_option maxRecDepth 20000 in
theorem ml_3 : ∀ q ∈ mLk 3, MLc 3 q := by unfold MLc; decide +kernel
set_option maxRecDepth 20000 in
theorem ml_4 : ∀ q ∈ mLk 4, MLc 4 q := by unfold MLc; decide +kernel
set_option maxRecDepth 20000 in
theorem ml_5 : ∀ q ∈ mLk 5, MLc 5 q := by unfold MLc; decide +kernel
set_option maxRecDepth 20000 in
theorem ml_6 : ∀ q ∈ mLk 6, MLc 6 q := by unfold MLc; decide +kernel
set_option maxRecDepth 20000 in
theorem ml_7 : ∀ q ∈ mLk 7, MLc 7 q := by unfold MLc; decide +kernel
set_option maxRecDepth 20000 in
theorem ml_8 : ∀ q ∈ mLk 8, MLc 8 q := by unfold MLc; decide +kernel
set_option maxRecDepth 20000 in
theorem ml_9 : ∀ q ∈ mLk 9, MLc 9 q := by unfold MLc; decide +kernel
set_option maxRecDepth 20000 in
theorem ml_10 : ∀ q ∈ mLk 10, MLc 10 q := by unfold MLc; decide +kernel
set_option maxRecDepth 20000 in
theorem ml_11 : ∀ q ∈ mLk 11, MLc 11 q := by unfold MLc; decide +kernel
set_option maxRecDepth 20000 in
theorem ml_12 : ∀ q ∈ mLk 12, MLc 12 q := by unfold MLc; decide +kernel
theorem mLk_ok (o : Nat) : ∀ q ∈ mLk o, MLc o q := by
  match o with
  | 0 => exact ml_0
  | 1 => exact ml_1
  | 2 => exact ml_2
  | 3 => exact ml_3
  | 4 => exact ml_4
  | 5 => exact ml_5
  | 6 => exact ml_6
  | 7 => exact ml_7
  | 8 => exact ml_8
  | 9 => exact ml_9
  | 10 => exact ml_10
  | 11 => exact ml_11
  | 12 => exact ml_12
  | _ + 13 => intro q h; cases h
def lbN (k : Nat) : MethodName := match k with
  | 1000 => objectInit
  | 1001 => Lib.Math.max.name
  | 1002 => Lib.Math.min.name
  | 1003 => Lib.Math.abs.name
  | 1004 => Lib.MathLoose.max_long.x
  | 1005 => Lib.MathLoose.min_long.x
  | 1006 => arraycopyName
  | 1007 => ⟨"java/lang/String", "length", "()I"⟩
  | 1008 => ⟨"java/lang/String", "charAt", "(I)C"⟩
  | _ => ⟨"java/lang/String", "indexOf", "(I)I"⟩
def lBk (o : Nat) : List ((Nat × Nat) × Nat) := match o with
  | 0 => [((3, 1000), 2130), ((66, 1006), 5151)]
  | 1 => [((3, 1000), 1147), ((77, 1001), 3222)]
  | 2 => [((3, 1000), 1041), ((61, 1006), 4003)]
  | 3 => [((3, 1000), 2056)]
  | 4 => [((3, 1000), 1035), ((33, 1002), 3003), ((163, 1009), 3078), ((171, 1007), 3022), ((174, 1008), 3032)]
  | 5 => [((3, 1000), 2149)]
  | 6 => [((3, 1000), 2083)]
  | 7 => [((3, 1000), 1227), ((38, 1006), 4122)]
  | 8 => [((3, 1000), 2173)]
  | 9 => [((3, 1000), 2077), ((88, 1002), 5183), ((94, 1001), 5184)]
  | 10 => [((3, 1000), 1219), ((73, 1003), 4036), ((90, 1002), 4043), ((101, 1005), 4049), ((104, 1004), 4052)]
  | 11 => [((1, 1000), 1027), ((363, 1002), 4035), ((394, 1001), 4034)]
  | 12 => [((7, 1000), 6124), ((95, 1007), 7029), ((101, 1008), 7030)]
  | _ => []
def LBc (o : Nat) (q : (Nat × Nat) × Nat) : Prop := tw q.2 = some (Cond.methodLink (oN o) q.1.1 (lbN q.1.2))
theorem lb_0 : ∀ q ∈ lBk 0, LBc 0 q := by unfold LBc; decide +kernel
theorem lb_1 : ∀ q ∈ lBk 1, LBc 1 q := by unfold LBc; decide +kernel
theorem lb_2 : ∀ q ∈ lBk 2, LBc 2 q := by unfold LBc; decide +kernel
theorem lb_3 : ∀ q ∈ lBk 3, LBc 3 q := by unfold LBc; decide +kernel
theorem lb_4 : ∀ q ∈ lBk 4, LBc 4 q := by unfold LBc; decide +kernel
theorem lb_5 : ∀ q ∈ lBk 5, LBc 5 q := by unfold LBc; decide +kernel
theorem lb_6 : ∀ q ∈ lBk 6, LBc 6 q := by unfold LBc; decide +kernel
theorem lb_7 : ∀ q ∈ lBk 7, LBc 7 q := by unfold LBc; decide +kernel
theorem lb_8 : ∀ q ∈ lBk 8, LBc 8 q := by unfold LBc; decide +kernel
theorem lb_9 : ∀ q ∈ lBk 9, LBc 9 q := by unfold LBc; decide +kernel
theorem lb_10 : ∀ q ∈ lBk 10, LBc 10 q := by unfold LBc; decide +kernel
theorem lb_11 : ∀ q ∈ lBk 11, LBc 11 q := by unfold LBc; decide +kernel
theorem lb_12 : ∀ q ∈ lBk 12, LBc 12 q := by unfold LBc; decide +kernel
theorem lBk_ok (o : Nat) : ∀ q ∈ lBk o, LBc o q := by
  match o with
  | 0 => exact lb_0
  | 1 => exact lb_1
  | 2 => exact lb_2
  | 3 => exact lb_3
  | 4 => exact lb_4
  | 5 => exact lb_5
  | 6 => exact lb_6
  | 7 => exact lb_7
  | 8 => exact lb_8
  | 9 => exact lb_9
  | 10 => exact lb_10
  | 11 => exact lb_11
  | 12 => exact lb_12
  | _ + 13 => intro q h; cases h
