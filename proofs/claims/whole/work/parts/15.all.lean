/-! ===== the table of methods; the reference's cells by address (printed by program) ===== -/
def mnth : List mM → Nat → Option mM
  | [], _ => none
  | w :: _, 0 => some w
  | _ :: l, n + 1 => mnth l n
def tL0 : List mM := [(t0_init, 2), (t0_learn, 4), (t0_turnsNeeded, 7), (t0_widen, 7), (t0_leadsInto, 4), (t0_firstBest, 7), (t1_init, 1), (t1_begin, 3), (t1_beginUnit, 1), (t1_take, 3), (t1_opens, 2), (t1_takeOpening, 2), (t1_takeAtom, 4), (t1_nameOf, 2), (t1_fitsBehind, 5), (t1_takeBehind, 2), (t1_finish, 1), (t1_push, 2), (t1_popDownTo, 3), (t1_rank, 1)]
def tL1 : List mM := [(t2_init, 1), (t2_empty, 2), (t2_copyFrom, 2), (t2_addCode, 2), (t2_bitsFrom, 4), (t3_init, 2), (t3_keep, 2), (t3_forgetEldest, 3), (t3_bringBack, 3), (t3_forget, 1), (t4_init, 1), (t4_readText, 5), (t4_readFarms, 1), (t4_readLine, 2), (t4_endLine, 1), (t4_readBit, 4), (t4_readFarm, 5), (t4_readCut, 2), (t4_readSnow, 3), (t4_readNow, 2)]
def tL2 : List mM := [(t4_readLaw, 4), (t4_expect, 2), (t4_number, 4), (t4_fail, 2), (t4_advance, 3), (t4_takeWord, 6), (t4_takeNumber, 2), (t4_isSmall, 1), (t4_isDigit, 1), (t5_init, 2), (t5_take, 7), (t5_hasPlace, 2), (t5_fits, 3), (t5_howManySeen, 5), (t5_swap, 2), (t5_sum, 4), (t5_bitsAt, 8), (t5_momentsThatGoOn, 7), (t5_howManyTold, 7), (t5_farmsAt, 5)]
def tL3 : List mM := [(t5_notTwice, 4), (t6_init, 1), (t6_begin, 5), (t6_size, 1), (t6_nextPlace, 1), (t6_isReached, 1), (t6_offer, 4), (t6_steps, 4), (t6_labelAt, 4), (t7_init, 1), (t7_begin, 3), (t7_copyFrom, 2), (t8_init, 1), (t8_isMissing, 1), (t8_lay, 4), (t8_at, 2), (t8_put, 6), (t8_trim, 3), (t9_init, 2), (t9_reached, 7)]
def tL4 : List mM := [(t9_howMany, 8), (t9_find, 9), (t9_markBits, 4), (t9_sortBits, 6), (t9_spread, 6), (t9_findJoining, 13), (t9_spreadLow, 8), (t9_spreadHigh, 8), (t9_offerPair, 4), (t9_markAtOne, 2), (t10_init, 1), (t10_isFarm, 2), (t10_isMoment, 2), (t10_isBit, 2), (t10_isWire, 2), (t10_allows, 3), (t10_allowedBits, 4), (t10_allowedFarms, 4), (t10_tellableBits, 4), (t10_hearsFrom, 3)]
def tL5 : List mM := [(t10_heardFarms, 4), (t10_hearers, 4), (t10_liking, 3), (t10_lawValue, 6), (t10_joined, 7), (t10_whyNotTell, 3), (t10_whyNot, 4), (t10_attempt, 6), (t10_nextFarm, 2), (t10_firstBit, 3), (t10_say, 5), (t10_doAll, 3), (t10_haveWinter, 5), (t10_drawnDeed, 3), (t10_drawBelow, 2), (t10_unlikeMoments, 3), (t10_allDoubts, 3), (t10_wholeAbove, 7), (t10_wholeBelow, 6), (t11_init, 2)]
def tL6 : List mM := [(t11_feed, 6), (t11_putBytes, 3), (t11_line, 3), (t11_fault, 2), (t11_farm, 3), (t11_bit, 3), (t11_wire, 3), (t11_likes, 3), (t11_tell, 4), (t11_cut, 2), (t11_mood, 4), (t11_go, 4), (t11_undo, 2), (t11_judge, 5), (t11_verdict, 5), (t11_perform, 2), (t11_winter, 3), (t11_keptIfAny, 2), (t11_heardBy, 2), (t11_ear, 5)]
def tL7 : List mM := [(t11_needs, 3), (t11_pieces, 1), (t11_listeners, 5), (t11_covered, 4), (t11_reach, 2), (t11_fewest, 3), (t11_way, 4), (t11_ways, 4), (t11_full, 3), (t11_fullWay, 4), (t11_placeOfWay, 5), (t11_ends, 4), (t11_forces, 3), (t11_power, 4), (t11_best, 3), (t11_ally, 4), (t11_tales, 1), (t11_joins, 3), (t11_joinBy, 4), (t11_rows, 4)]
def tL8 : List mM := [(t11_sureBit, 6), (t11_takeSeen, 3), (t11_tellers, 3), (t11_teller, 4), (t11_takeTold, 2), (t11_better, 3), (t11_isBetter, 6), (t11_fairest, 3), (t11_leastLiking, 4), (t11_snow, 12), (t11_commonDivisor, 11), (t11_left, 5), (t11_numbers, 4), (t11_write, 6), (t11_lists, 8), (t11_image, 2), (t11_restore, 2), (t11_count, 2), (t11_isTray, 1), (t11_areTwo, 3)]
def tL9 : List mM := [(t11_areMoments, 3), (t11_wiresBetween, 2), (t12_within, 6), (t12_init, 1), (t12_plain, 2), (t12_feed, 8), (t12_see, 2), (t12_isSmall, 1), (t12_isDigit, 1), (t12_keyAt, 4), (t12_next, 2), (t12_fails, 2), (t12_is, 2), (t12_eats, 2), (t12_takes, 4), (t12_isIn, 3), (t12_wordOf, 2), (t12_codes, 2), (t12_goesIn, 2), (t12_readAtom, 2)]
def tL10 : List mM := [(t12_readTerm, 2), (t12_readSum, 3), (t12_readUnit, 3), (t12_readBoth, 2), (t12_readTruth, 2), (t12_readBit, 5), (t12_readFlag, 2), (t12_readFarm, 2), (t12_readSnow, 3), (t12_readLaw, 3), (t12_readLine, 3), (t12_ends1, 1), (t12_line, 3), (t12_fault, 2), (t12_isFarm, 3), (t12_isMoment, 3), (t12_isBit, 3), (t12_isWire, 3), (t12_bitsOf, 3), (t12_between, 5)]
def tL11 : List mM := [(t12_reckons, 6), (t12_mayTell, 3), (t12_wiresOf, 4), (t12_hears, 3), (t12_likesOf, 3), (t12_heardOf, 4), (t12_hearersOf, 4), (t12_whoMay, 4), (t12_canTell, 4), (t12_farm, 3), (t12_bit, 3), (t12_wire, 3), (t12_likes, 3), (t12_keeps, 2), (t12_isAgain, 2), (t12_notes, 2), (t12_whyTell, 5), (t12_tells1, 5), (t12_goesTurn, 4), (t12_tell, 5)]
def tL12 : List mM := [(t12_cut, 2), (t12_mood, 3), (t12_go, 4), (t12_undo, 3), (t12_whyNot, 3), (t12_does, 2), (t12_goesDeeds, 3), (t12_noTray, 2), (t12_talesNow, 3), (t12_doubtsAll, 3), (t12_judge, 7), (t12_perform, 4), (t12_draw, 2), (t12_drawn, 3), (t12_winter, 6), (t12_heardBy, 2), (t12_ear, 3), (t12_areTwo, 3), (t12_needs, 3), (t12_pieces, 1)]
def tL13 : List mM := [(t12_listeners, 6), (t12_laysUsable, 2), (t12_isFrom, 3), (t12_reach, 5), (t12_told, 3), (t12_laysStill, 5), (t12_laysFarm, 7), (t12_laysWay, 9), (t12_areMoments, 3), (t12_fewest, 3), (t12_wayAt, 6), (t12_way, 4), (t12_goesRows, 4), (t12_beginsRows, 3), (t12_ways, 5), (t12_full, 3), (t12_fullWay, 4), (t12_ends, 5), (t12_turnOf, 2), (t12_behind1, 8)]
def tL14 : List mM := [(t12_laysGame, 7), (t12_forcesBy, 5), (t12_forces, 3), (t12_power, 4), (t12_best, 5), (t12_ally, 4), (t12_tales, 1), (t12_joined, 11), (t12_deedOf, 6), (t12_laysJoin, 8), (t12_isNearer, 6), (t12_joins, 3), (t12_joinBy, 5), (t12_noRow, 7), (t12_noSeen, 3), (t12_rowsBy, 8), (t12_rows, 4), (t12_sureBit, 8), (t12_tellersBy, 12), (t12_tellers, 3)]
def tL15 : List mM := [(t12_teller, 6), (t12_better, 6), (t12_leastLikes, 4), (t12_fairest, 3), (t12_tens, 4), (t12_common, 4), (t12_wholeOf, 6), (t12_snow, 10), (t12_left, 5), (t12_cut1, 3), (t12_numbers, 5), (t12_write, 6), (t12_lists, 8), (t12_image, 3), (t12_restore, 3), (t12_mustAll, 3), (t12_count, 2), (tJ_numberOfTrailingZeros, 2), (tJ_bitCount, 1)]
def tLs (c : Nat) : List mM := match c with
  | 0 => tL0
  | 1 => tL1
  | 2 => tL2
  | 3 => tL3
  | 4 => tL4
  | 5 => tL5
  | 6 => tL6
  | 7 => tL7
  | 8 => tL8
  | 9 => tL9
  | 10 => tL10
  | 11 => tL11
  | 12 => tL12
  | 13 => tL13
  | 14 => tL14
  | 15 => tL15
  | _ => []
def gT (k : Nat) : Option mM := mnth (tLs (k / 20)) (k % 20)
theorem g0_init : gT 0 = some (t0_init, 2) := rfl
theorem g0_learn : gT 1 = some (t0_learn, 4) := rfl
theorem g0_turnsNeeded : gT 2 = some (t0_turnsNeeded, 7) := rfl
theorem g0_widen : gT 3 = some (t0_widen, 7) := rfl
theorem g0_leadsInto : gT 4 = some (t0_leadsInto, 4) := rfl
theorem g0_firstBest : gT 5 = some (t0_firstBest, 7) := rfl
theorem g1_init : gT 6 = some (t1_init, 1) := rfl
theorem g1_begin : gT 7 = some (t1_begin, 3) := rfl
theorem g1_beginUnit : gT 8 = some (t1_beginUnit, 1) := rfl
theorem g1_take : gT 9 = some (t1_take, 3) := rfl
theorem g1_opens : gT 10 = some (t1_opens, 2) := rfl
theorem g1_takeOpening : gT 11 = some (t1_takeOpening, 2) := rfl
theorem g1_takeAtom : gT 12 = some (t1_takeAtom, 4) := rfl
theorem g1_nameOf : gT 13 = some (t1_nameOf, 2) := rfl
theorem g1_fitsBehind : gT 14 = some (t1_fitsBehind, 5) := rfl
theorem g1_takeBehind : gT 15 = some (t1_takeBehind, 2) := rfl
theorem g1_finish : gT 16 = some (t1_finish, 1) := rfl
theorem g1_push : gT 17 = some (t1_push, 2) := rfl
theorem g1_popDownTo : gT 18 = some (t1_popDownTo, 3) := rfl
theorem g1_rank : gT 19 = some (t1_rank, 1) := rfl
theorem g2_init : gT 20 = some (t2_init, 1) := rfl
theorem g2_empty : gT 21 = some (t2_empty, 2) := rfl
theorem g2_copyFrom : gT 22 = some (t2_copyFrom, 2) := rfl
theorem g2_addCode : gT 23 = some (t2_addCode, 2) := rfl
theorem g2_bitsFrom : gT 24 = some (t2_bitsFrom, 4) := rfl
theorem g3_init : gT 25 = some (t3_init, 2) := rfl
theorem g3_keep : gT 26 = some (t3_keep, 2) := rfl
theorem g3_forgetEldest : gT 27 = some (t3_forgetEldest, 3) := rfl
theorem g3_bringBack : gT 28 = some (t3_bringBack, 3) := rfl
theorem g3_forget : gT 29 = some (t3_forget, 1) := rfl
theorem g4_init : gT 30 = some (t4_init, 1) := rfl
theorem g4_readText : gT 31 = some (t4_readText, 5) := rfl
theorem g4_readFarms : gT 32 = some (t4_readFarms, 1) := rfl
theorem g4_readLine : gT 33 = some (t4_readLine, 2) := rfl
theorem g4_endLine : gT 34 = some (t4_endLine, 1) := rfl
theorem g4_readBit : gT 35 = some (t4_readBit, 4) := rfl
theorem g4_readFarm : gT 36 = some (t4_readFarm, 5) := rfl
theorem g4_readCut : gT 37 = some (t4_readCut, 2) := rfl
theorem g4_readSnow : gT 38 = some (t4_readSnow, 3) := rfl
theorem g4_readNow : gT 39 = some (t4_readNow, 2) := rfl
theorem g4_readLaw : gT 40 = some (t4_readLaw, 4) := rfl
theorem g4_expect : gT 41 = some (t4_expect, 2) := rfl
theorem g4_number : gT 42 = some (t4_number, 4) := rfl
theorem g4_fail : gT 43 = some (t4_fail, 2) := rfl
theorem g4_advance : gT 44 = some (t4_advance, 3) := rfl
theorem g4_takeWord : gT 45 = some (t4_takeWord, 6) := rfl
theorem g4_takeNumber : gT 46 = some (t4_takeNumber, 2) := rfl
theorem g4_isSmall : gT 47 = some (t4_isSmall, 1) := rfl
theorem g4_isDigit : gT 48 = some (t4_isDigit, 1) := rfl
theorem g5_init : gT 49 = some (t5_init, 2) := rfl
theorem g5_take : gT 50 = some (t5_take, 7) := rfl
theorem g5_hasPlace : gT 51 = some (t5_hasPlace, 2) := rfl
theorem g5_fits : gT 52 = some (t5_fits, 3) := rfl
theorem g5_howManySeen : gT 53 = some (t5_howManySeen, 5) := rfl
theorem g5_swap : gT 54 = some (t5_swap, 2) := rfl
theorem g5_sum : gT 55 = some (t5_sum, 4) := rfl
theorem g5_bitsAt : gT 56 = some (t5_bitsAt, 8) := rfl
theorem g5_momentsThatGoOn : gT 57 = some (t5_momentsThatGoOn, 7) := rfl
theorem g5_howManyTold : gT 58 = some (t5_howManyTold, 7) := rfl
theorem g5_farmsAt : gT 59 = some (t5_farmsAt, 5) := rfl
theorem g5_notTwice : gT 60 = some (t5_notTwice, 4) := rfl
theorem g6_init : gT 61 = some (t6_init, 1) := rfl
theorem g6_begin : gT 62 = some (t6_begin, 5) := rfl
theorem g6_size : gT 63 = some (t6_size, 1) := rfl
theorem g6_nextPlace : gT 64 = some (t6_nextPlace, 1) := rfl
theorem g6_isReached : gT 65 = some (t6_isReached, 1) := rfl
theorem g6_offer : gT 66 = some (t6_offer, 4) := rfl
theorem g6_steps : gT 67 = some (t6_steps, 4) := rfl
theorem g6_labelAt : gT 68 = some (t6_labelAt, 4) := rfl
theorem g7_init : gT 69 = some (t7_init, 1) := rfl
theorem g7_begin : gT 70 = some (t7_begin, 3) := rfl
theorem g7_copyFrom : gT 71 = some (t7_copyFrom, 2) := rfl
theorem g8_init : gT 72 = some (t8_init, 1) := rfl
theorem g8_isMissing : gT 73 = some (t8_isMissing, 1) := rfl
theorem g8_lay : gT 74 = some (t8_lay, 4) := rfl
theorem g8_at : gT 75 = some (t8_at, 2) := rfl
theorem g8_put : gT 76 = some (t8_put, 6) := rfl
theorem g8_trim : gT 77 = some (t8_trim, 3) := rfl
theorem g9_init : gT 78 = some (t9_init, 2) := rfl
theorem g9_reached : gT 79 = some (t9_reached, 7) := rfl
theorem g9_howMany : gT 80 = some (t9_howMany, 8) := rfl
theorem g9_find : gT 81 = some (t9_find, 9) := rfl
theorem g9_markBits : gT 82 = some (t9_markBits, 4) := rfl
theorem g9_sortBits : gT 83 = some (t9_sortBits, 6) := rfl
theorem g9_spread : gT 84 = some (t9_spread, 6) := rfl
theorem g9_findJoining : gT 85 = some (t9_findJoining, 13) := rfl
theorem g9_spreadLow : gT 86 = some (t9_spreadLow, 8) := rfl
theorem g9_spreadHigh : gT 87 = some (t9_spreadHigh, 8) := rfl
theorem g9_offerPair : gT 88 = some (t9_offerPair, 4) := rfl
theorem g9_markAtOne : gT 89 = some (t9_markAtOne, 2) := rfl
theorem g10_init : gT 90 = some (t10_init, 1) := rfl
theorem g10_isFarm : gT 91 = some (t10_isFarm, 2) := rfl
theorem g10_isMoment : gT 92 = some (t10_isMoment, 2) := rfl
theorem g10_isBit : gT 93 = some (t10_isBit, 2) := rfl
theorem g10_isWire : gT 94 = some (t10_isWire, 2) := rfl
theorem g10_allows : gT 95 = some (t10_allows, 3) := rfl
theorem g10_allowedBits : gT 96 = some (t10_allowedBits, 4) := rfl
theorem g10_allowedFarms : gT 97 = some (t10_allowedFarms, 4) := rfl
theorem g10_tellableBits : gT 98 = some (t10_tellableBits, 4) := rfl
theorem g10_hearsFrom : gT 99 = some (t10_hearsFrom, 3) := rfl
theorem g10_heardFarms : gT 100 = some (t10_heardFarms, 4) := rfl
theorem g10_hearers : gT 101 = some (t10_hearers, 4) := rfl
theorem g10_liking : gT 102 = some (t10_liking, 3) := rfl
theorem g10_lawValue : gT 103 = some (t10_lawValue, 6) := rfl
theorem g10_joined : gT 104 = some (t10_joined, 7) := rfl
theorem g10_whyNotTell : gT 105 = some (t10_whyNotTell, 3) := rfl
theorem g10_whyNot : gT 106 = some (t10_whyNot, 4) := rfl
theorem g10_attempt : gT 107 = some (t10_attempt, 6) := rfl
theorem g10_nextFarm : gT 108 = some (t10_nextFarm, 2) := rfl
theorem g10_firstBit : gT 109 = some (t10_firstBit, 3) := rfl
theorem g10_say : gT 110 = some (t10_say, 5) := rfl
theorem g10_doAll : gT 111 = some (t10_doAll, 3) := rfl
theorem g10_haveWinter : gT 112 = some (t10_haveWinter, 5) := rfl
theorem g10_drawnDeed : gT 113 = some (t10_drawnDeed, 3) := rfl
theorem g10_drawBelow : gT 114 = some (t10_drawBelow, 2) := rfl
theorem g10_unlikeMoments : gT 115 = some (t10_unlikeMoments, 3) := rfl
theorem g10_allDoubts : gT 116 = some (t10_allDoubts, 3) := rfl
theorem g10_wholeAbove : gT 117 = some (t10_wholeAbove, 7) := rfl
theorem g10_wholeBelow : gT 118 = some (t10_wholeBelow, 6) := rfl
theorem g11_init : gT 119 = some (t11_init, 2) := rfl
theorem g11_feed : gT 120 = some (t11_feed, 6) := rfl
theorem g11_putBytes : gT 121 = some (t11_putBytes, 3) := rfl
theorem g11_line : gT 122 = some (t11_line, 3) := rfl
theorem g11_fault : gT 123 = some (t11_fault, 2) := rfl
theorem g11_farm : gT 124 = some (t11_farm, 3) := rfl
theorem g11_bit : gT 125 = some (t11_bit, 3) := rfl
theorem g11_wire : gT 126 = some (t11_wire, 3) := rfl
theorem g11_likes : gT 127 = some (t11_likes, 3) := rfl
theorem g11_tell : gT 128 = some (t11_tell, 4) := rfl
theorem g11_cut : gT 129 = some (t11_cut, 2) := rfl
theorem g11_mood : gT 130 = some (t11_mood, 4) := rfl
theorem g11_go : gT 131 = some (t11_go, 4) := rfl
theorem g11_undo : gT 132 = some (t11_undo, 2) := rfl
theorem g11_judge : gT 133 = some (t11_judge, 5) := rfl
theorem g11_verdict : gT 134 = some (t11_verdict, 5) := rfl
theorem g11_perform : gT 135 = some (t11_perform, 2) := rfl
theorem g11_winter : gT 136 = some (t11_winter, 3) := rfl
theorem g11_keptIfAny : gT 137 = some (t11_keptIfAny, 2) := rfl
theorem g11_heardBy : gT 138 = some (t11_heardBy, 2) := rfl
theorem g11_ear : gT 139 = some (t11_ear, 5) := rfl
theorem g11_needs : gT 140 = some (t11_needs, 3) := rfl
theorem g11_pieces : gT 141 = some (t11_pieces, 1) := rfl
theorem g11_listeners : gT 142 = some (t11_listeners, 5) := rfl
theorem g11_covered : gT 143 = some (t11_covered, 4) := rfl
theorem g11_reach : gT 144 = some (t11_reach, 2) := rfl
theorem g11_fewest : gT 145 = some (t11_fewest, 3) := rfl
theorem g11_way : gT 146 = some (t11_way, 4) := rfl
theorem g11_ways : gT 147 = some (t11_ways, 4) := rfl
theorem g11_full : gT 148 = some (t11_full, 3) := rfl
theorem g11_fullWay : gT 149 = some (t11_fullWay, 4) := rfl
theorem g11_placeOfWay : gT 150 = some (t11_placeOfWay, 5) := rfl
theorem g11_ends : gT 151 = some (t11_ends, 4) := rfl
theorem g11_forces : gT 152 = some (t11_forces, 3) := rfl
theorem g11_power : gT 153 = some (t11_power, 4) := rfl
theorem g11_best : gT 154 = some (t11_best, 3) := rfl
theorem g11_ally : gT 155 = some (t11_ally, 4) := rfl
theorem g11_tales : gT 156 = some (t11_tales, 1) := rfl
theorem g11_joins : gT 157 = some (t11_joins, 3) := rfl
theorem g11_joinBy : gT 158 = some (t11_joinBy, 4) := rfl
theorem g11_rows : gT 159 = some (t11_rows, 4) := rfl
theorem g11_sureBit : gT 160 = some (t11_sureBit, 6) := rfl
theorem g11_takeSeen : gT 161 = some (t11_takeSeen, 3) := rfl
theorem g11_tellers : gT 162 = some (t11_tellers, 3) := rfl
theorem g11_teller : gT 163 = some (t11_teller, 4) := rfl
theorem g11_takeTold : gT 164 = some (t11_takeTold, 2) := rfl
theorem g11_better : gT 165 = some (t11_better, 3) := rfl
theorem g11_isBetter : gT 166 = some (t11_isBetter, 6) := rfl
theorem g11_fairest : gT 167 = some (t11_fairest, 3) := rfl
theorem g11_leastLiking : gT 168 = some (t11_leastLiking, 4) := rfl
theorem g11_snow : gT 169 = some (t11_snow, 12) := rfl
theorem g11_commonDivisor : gT 170 = some (t11_commonDivisor, 11) := rfl
theorem g11_left : gT 171 = some (t11_left, 5) := rfl
theorem g11_numbers : gT 172 = some (t11_numbers, 4) := rfl
theorem g11_write : gT 173 = some (t11_write, 6) := rfl
theorem g11_lists : gT 174 = some (t11_lists, 8) := rfl
theorem g11_image : gT 175 = some (t11_image, 2) := rfl
theorem g11_restore : gT 176 = some (t11_restore, 2) := rfl
theorem g11_count : gT 177 = some (t11_count, 2) := rfl
theorem g11_isTray : gT 178 = some (t11_isTray, 1) := rfl
theorem g11_areTwo : gT 179 = some (t11_areTwo, 3) := rfl
theorem g11_areMoments : gT 180 = some (t11_areMoments, 3) := rfl
theorem g11_wiresBetween : gT 181 = some (t11_wiresBetween, 2) := rfl
theorem g12_within : gT 182 = some (t12_within, 6) := rfl
theorem g12_init : gT 183 = some (t12_init, 1) := rfl
theorem g12_plain : gT 184 = some (t12_plain, 2) := rfl
theorem g12_feed : gT 185 = some (t12_feed, 8) := rfl
theorem g12_see : gT 186 = some (t12_see, 2) := rfl
theorem g12_isSmall : gT 187 = some (t12_isSmall, 1) := rfl
theorem g12_isDigit : gT 188 = some (t12_isDigit, 1) := rfl
theorem g12_keyAt : gT 189 = some (t12_keyAt, 4) := rfl
theorem g12_next : gT 190 = some (t12_next, 2) := rfl
theorem g12_fails : gT 191 = some (t12_fails, 2) := rfl
theorem g12_is : gT 192 = some (t12_is, 2) := rfl
theorem g12_eats : gT 193 = some (t12_eats, 2) := rfl
theorem g12_takes : gT 194 = some (t12_takes, 4) := rfl
theorem g12_isIn : gT 195 = some (t12_isIn, 3) := rfl
theorem g12_wordOf : gT 196 = some (t12_wordOf, 2) := rfl
theorem g12_codes : gT 197 = some (t12_codes, 2) := rfl
theorem g12_goesIn : gT 198 = some (t12_goesIn, 2) := rfl
theorem g12_readAtom : gT 199 = some (t12_readAtom, 2) := rfl
theorem g12_readTerm : gT 200 = some (t12_readTerm, 2) := rfl
theorem g12_readSum : gT 201 = some (t12_readSum, 3) := rfl
theorem g12_readUnit : gT 202 = some (t12_readUnit, 3) := rfl
theorem g12_readBoth : gT 203 = some (t12_readBoth, 2) := rfl
theorem g12_readTruth : gT 204 = some (t12_readTruth, 2) := rfl
theorem g12_readBit : gT 205 = some (t12_readBit, 5) := rfl
theorem g12_readFlag : gT 206 = some (t12_readFlag, 2) := rfl
theorem g12_readFarm : gT 207 = some (t12_readFarm, 2) := rfl
theorem g12_readSnow : gT 208 = some (t12_readSnow, 3) := rfl
theorem g12_readLaw : gT 209 = some (t12_readLaw, 3) := rfl
theorem g12_readLine : gT 210 = some (t12_readLine, 3) := rfl
theorem g12_ends1 : gT 211 = some (t12_ends1, 1) := rfl
theorem g12_line : gT 212 = some (t12_line, 3) := rfl
theorem g12_fault : gT 213 = some (t12_fault, 2) := rfl
theorem g12_isFarm : gT 214 = some (t12_isFarm, 3) := rfl
theorem g12_isMoment : gT 215 = some (t12_isMoment, 3) := rfl
theorem g12_isBit : gT 216 = some (t12_isBit, 3) := rfl
theorem g12_isWire : gT 217 = some (t12_isWire, 3) := rfl
theorem g12_bitsOf : gT 218 = some (t12_bitsOf, 3) := rfl
theorem g12_between : gT 219 = some (t12_between, 5) := rfl
theorem g12_reckons : gT 220 = some (t12_reckons, 6) := rfl
theorem g12_mayTell : gT 221 = some (t12_mayTell, 3) := rfl
theorem g12_wiresOf : gT 222 = some (t12_wiresOf, 4) := rfl
theorem g12_hears : gT 223 = some (t12_hears, 3) := rfl
theorem g12_likesOf : gT 224 = some (t12_likesOf, 3) := rfl
theorem g12_heardOf : gT 225 = some (t12_heardOf, 4) := rfl
theorem g12_hearersOf : gT 226 = some (t12_hearersOf, 4) := rfl
theorem g12_whoMay : gT 227 = some (t12_whoMay, 4) := rfl
theorem g12_canTell : gT 228 = some (t12_canTell, 4) := rfl
theorem g12_farm : gT 229 = some (t12_farm, 3) := rfl
theorem g12_bit : gT 230 = some (t12_bit, 3) := rfl
theorem g12_wire : gT 231 = some (t12_wire, 3) := rfl
theorem g12_likes : gT 232 = some (t12_likes, 3) := rfl
theorem g12_keeps : gT 233 = some (t12_keeps, 2) := rfl
theorem g12_isAgain : gT 234 = some (t12_isAgain, 2) := rfl
theorem g12_notes : gT 235 = some (t12_notes, 2) := rfl
theorem g12_whyTell : gT 236 = some (t12_whyTell, 5) := rfl
theorem g12_tells1 : gT 237 = some (t12_tells1, 5) := rfl
theorem g12_goesTurn : gT 238 = some (t12_goesTurn, 4) := rfl
theorem g12_tell : gT 239 = some (t12_tell, 5) := rfl
theorem g12_cut : gT 240 = some (t12_cut, 2) := rfl
theorem g12_mood : gT 241 = some (t12_mood, 3) := rfl
theorem g12_go : gT 242 = some (t12_go, 4) := rfl
theorem g12_undo : gT 243 = some (t12_undo, 3) := rfl
theorem g12_whyNot : gT 244 = some (t12_whyNot, 3) := rfl
theorem g12_does : gT 245 = some (t12_does, 2) := rfl
theorem g12_goesDeeds : gT 246 = some (t12_goesDeeds, 3) := rfl
theorem g12_noTray : gT 247 = some (t12_noTray, 2) := rfl
theorem g12_talesNow : gT 248 = some (t12_talesNow, 3) := rfl
theorem g12_doubtsAll : gT 249 = some (t12_doubtsAll, 3) := rfl
theorem g12_judge : gT 250 = some (t12_judge, 7) := rfl
theorem g12_perform : gT 251 = some (t12_perform, 4) := rfl
theorem g12_draw : gT 252 = some (t12_draw, 2) := rfl
theorem g12_drawn : gT 253 = some (t12_drawn, 3) := rfl
theorem g12_winter : gT 254 = some (t12_winter, 6) := rfl
theorem g12_heardBy : gT 255 = some (t12_heardBy, 2) := rfl
theorem g12_ear : gT 256 = some (t12_ear, 3) := rfl
theorem g12_areTwo : gT 257 = some (t12_areTwo, 3) := rfl
theorem g12_needs : gT 258 = some (t12_needs, 3) := rfl
theorem g12_pieces : gT 259 = some (t12_pieces, 1) := rfl
theorem g12_listeners : gT 260 = some (t12_listeners, 6) := rfl
theorem g12_laysUsable : gT 261 = some (t12_laysUsable, 2) := rfl
theorem g12_isFrom : gT 262 = some (t12_isFrom, 3) := rfl
theorem g12_reach : gT 263 = some (t12_reach, 5) := rfl
theorem g12_told : gT 264 = some (t12_told, 3) := rfl
theorem g12_laysStill : gT 265 = some (t12_laysStill, 5) := rfl
theorem g12_laysFarm : gT 266 = some (t12_laysFarm, 7) := rfl
theorem g12_laysWay : gT 267 = some (t12_laysWay, 9) := rfl
theorem g12_areMoments : gT 268 = some (t12_areMoments, 3) := rfl
theorem g12_fewest : gT 269 = some (t12_fewest, 3) := rfl
theorem g12_wayAt : gT 270 = some (t12_wayAt, 6) := rfl
theorem g12_way : gT 271 = some (t12_way, 4) := rfl
theorem g12_goesRows : gT 272 = some (t12_goesRows, 4) := rfl
theorem g12_beginsRows : gT 273 = some (t12_beginsRows, 3) := rfl
theorem g12_ways : gT 274 = some (t12_ways, 5) := rfl
theorem g12_full : gT 275 = some (t12_full, 3) := rfl
theorem g12_fullWay : gT 276 = some (t12_fullWay, 4) := rfl
theorem g12_ends : gT 277 = some (t12_ends, 5) := rfl
theorem g12_turnOf : gT 278 = some (t12_turnOf, 2) := rfl
theorem g12_behind1 : gT 279 = some (t12_behind1, 8) := rfl
theorem g12_laysGame : gT 280 = some (t12_laysGame, 7) := rfl
theorem g12_forcesBy : gT 281 = some (t12_forcesBy, 5) := rfl
theorem g12_forces : gT 282 = some (t12_forces, 3) := rfl
theorem g12_power : gT 283 = some (t12_power, 4) := rfl
theorem g12_best : gT 284 = some (t12_best, 5) := rfl
theorem g12_ally : gT 285 = some (t12_ally, 4) := rfl
theorem g12_tales : gT 286 = some (t12_tales, 1) := rfl
theorem g12_joined : gT 287 = some (t12_joined, 11) := rfl
theorem g12_deedOf : gT 288 = some (t12_deedOf, 6) := rfl
theorem g12_laysJoin : gT 289 = some (t12_laysJoin, 8) := rfl
theorem g12_isNearer : gT 290 = some (t12_isNearer, 6) := rfl
theorem g12_joins : gT 291 = some (t12_joins, 3) := rfl
theorem g12_joinBy : gT 292 = some (t12_joinBy, 5) := rfl
theorem g12_noRow : gT 293 = some (t12_noRow, 7) := rfl
theorem g12_noSeen : gT 294 = some (t12_noSeen, 3) := rfl
theorem g12_rowsBy : gT 295 = some (t12_rowsBy, 8) := rfl
theorem g12_rows : gT 296 = some (t12_rows, 4) := rfl
theorem g12_sureBit : gT 297 = some (t12_sureBit, 8) := rfl
theorem g12_tellersBy : gT 298 = some (t12_tellersBy, 12) := rfl
theorem g12_tellers : gT 299 = some (t12_tellers, 3) := rfl
theorem g12_teller : gT 300 = some (t12_teller, 6) := rfl
theorem g12_better : gT 301 = some (t12_better, 6) := rfl
theorem g12_leastLikes : gT 302 = some (t12_leastLikes, 4) := rfl
theorem g12_fairest : gT 303 = some (t12_fairest, 3) := rfl
theorem g12_tens : gT 304 = some (t12_tens, 4) := rfl
theorem g12_common : gT 305 = some (t12_common, 4) := rfl
theorem g12_wholeOf : gT 306 = some (t12_wholeOf, 6) := rfl
theorem g12_snow : gT 307 = some (t12_snow, 10) := rfl
theorem g12_left : gT 308 = some (t12_left, 5) := rfl
theorem g12_cut1 : gT 309 = some (t12_cut1, 3) := rfl
theorem g12_numbers : gT 310 = some (t12_numbers, 5) := rfl
theorem g12_write : gT 311 = some (t12_write, 6) := rfl
theorem g12_lists : gT 312 = some (t12_lists, 8) := rfl
theorem g12_image : gT 313 = some (t12_image, 3) := rfl
theorem g12_restore : gT 314 = some (t12_restore, 3) := rfl
theorem g12_mustAll : gT 315 = some (t12_mustAll, 3) := rfl
theorem g12_count : gT 316 = some (t12_count, 2) := rfl
theorem gJ_numberOfTrailingZeros : gT 317 = some (tJ_numberOfTrailingZeros, 2) := rfl
theorem gJ_bitCount : gT 318 = some (tJ_bitCount, 1) := rfl
theorem hgT : ∀ r ∈ mFk, ∃ M, gT r.1 = some M ∧ M.2 = r.2.1 := by
  have h : ∀ r ∈ mFk, (gT r.1).map Prod.snd = some r.2.1 := by decide +kernel
  intro r hr
  have h1 := h r hr
  cases e : gT r.1 with
  | none => rw [e] at h1; cases h1
  | some M => rw [e] at h1; exact ⟨M, rfl, Option.some.inj h1⟩
theorem WPm_in {T : Nat → Option mM} {d k : Nat} {M : mM} {as : List mV} {h : mH} {F : mPost} (hk : T k = some M) (h1 : mCats as ≤ M.2) (h2 : WPc M.1 (WPm T d) F (0, mEnt as M.2, [], h)) : WPm T (d + 1) k as h F := by
  unfold WPm
  rw [hk]
  exact ⟨h1, h2⟩
def sI (M : Nat → Nat → Int) (a k : Nat) (x : Int) : Nat → Nat → Int := fun b j => if b = a ∧ j = k then x else M b j
theorem sI_same (M : Nat → Nat → Int) (a k : Nat) (x : Int) : sI M a k x a k = x := if_pos ⟨rfl, rfl⟩
theorem sI_row {M : Nat → Nat → Int} {a b k : Nat} {x : Int} (h : b ≠ a) : sI M a k x b = M b := by
  funext j
  exact if_neg (fun z => h z.1)
theorem sI_ne {M : Nat → Nat → Int} {a k j : Nat} {x : Int} (h : j ≠ k) : sI M a k x a j = M a j := if_neg (fun z => h z.2)
theorem sI_if (M : Nat → Nat → Int) (a k : Nat) (x : Int) (j : Nat) : sI M a k x a j = if j = k then x else M a j := by
  unfold sI
  by_cases h : j = k
  · rw [if_pos ⟨rfl, h⟩, if_pos h]
  · rw [if_neg (fun z => h z.2), if_neg h]
/-- the reference: its object is the cell 1, its rows the cells 2 to 22 -/
def rfR (a k : Nat) : Nat := bif Nat.beq a 1 then (match k with
  | 1 => 2
  | 2 => 3
  | 3 => 4
  | 4 => 5
  | 16 => 6
  | 17 => 7
  | 18 => 8
  | 22 => 9
  | 23 => 10
  | 25 => 11
  | 26 => 12
  | 27 => 13
  | 28 => 14
  | 29 => 15
  | 30 => 16
  | 31 => 17
  | 32 => 18
  | 33 => 19
  | 34 => 20
  | 35 => 21
  | 36 => 22
  | _ => 0) else 0
def shR (a : Nat) : Nat × Nat := match a with
  | 1 => (22, 37)
  | 2 => (1, 3792)
  | 3 => (3, 2)
  | 4 => (1, 900)
  | 5 => (1, 1264)
  | 6 => (1, 900)
  | 7 => (1, 8)
  | 8 => (1, 27)
  | 9 => (1, 32768)
  | 10 => (1, 120)
  | 11 => (4, 8)
  | 12 => (4, 8)
  | 13 => (1, 64)
  | 14 => (1, 64)
  | 15 => (1, 8)
  | 16 => (1, 64)
  | 17 => (1, 64)
  | 18 => (4, 8)
  | 19 => (4, 8)
  | 20 => (1, 4)
  | 21 => (1, 4)
  | 22 => (4, 160)
  | _ => (0, 0)
def hR (M : Nat → Nat → Int) (n : Nat × Nat) : mH := (M, rfR, shR, n)
def FR (Φ : Int → (Nat → Nat → Int) → Prop) (n : Nat × Nat) : mPost := fun r h' => ∃ M, h' = hR M n ∧ Φ r.2 M
theorem FRmk {Φ : Int → (Nat → Nat → Int) → Prop} {n : Nat × Nat} {t : Nat} {v : Int} {M : Nat → Nat → Int} (q : Φ v M) : FR Φ n (t, v) (hR M n) := ⟨M, rfl, q⟩
/-- the k-th method comes to its end, and Φ holds of its answer and the numbers then -/
def CR (d k : Nat) (as : List mV) (M : Nat → Nat → Int) (n : Nat × Nat) (Φ : Int → (Nat → Nat → Int) → Prop) : Prop := WPm gT d k as (hR M n) (FR Φ n)
theorem CR.mono {d k : Nat} {as : List mV} {M : Nat → Nat → Int} {n : Nat × Nat} {Φ Ψ : Int → (Nat → Nat → Int) → Prop} (h : CR d k as M n Φ) (hi : ∀ r N, Φ r N → Ψ r N) : CR d k as M n Ψ :=
  WPm_mono gT d _ _ _ _ _ (fun r h' z => by obtain ⟨N, e, z⟩ := z; exact ⟨N, e, hi _ _ z⟩) h
