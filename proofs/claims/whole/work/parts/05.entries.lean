/-! printed by wip/whole/emit.py: the methods by their numbers -/
theorem m_X0_copyFrom : zm_ms 0 = some (RX0, yX0_copyFrom, cX0_copyFrom, 2, none, false, 1, 0, false, [], zt_X0_copyFrom) := rfl
theorem m_X0_hasWord : zm_ms 1 = some (RX0, yX0_hasWord, cX0_hasWord, 2, (some .boolean), false, 1, 0, true, [], zt_X0_hasWord) := rfl
theorem m_X0_areTwoWords : zm_ms 2 = some (RX0, yX0_areTwoWords, cX0_areTwoWords, 3, (some .boolean), false, 2, 0, true, [], zt_X0_areTwoWords) := rfl
theorem m_X0_wordAt : zm_ms 3 = some (RX0, yX0_wordAt, cX0_wordAt, 2, (some .int), false, 1, 0, false, [5], zt_X0_wordAt) := rfl
theorem m_X0_addWord : zm_ms 4 = some (RX0, yX0_addWord, cX0_addWord, 2, none, false, 1, 0, false, [], zt_X0_addWord) := rfl
theorem m_X0_hasThirdLetter : zm_ms 5 = some (RX0, yX0_hasThirdLetter, cX0_hasThirdLetter, 2, (some .boolean), false, 0, 0, true, [2, 32], zt_X0_hasThirdLetter) := rfl
theorem m_X0_isSet : zm_ms 6 = some (RX0, yX0_isSet, cX0_isSet, 2, (some .boolean), false, 1, 0, true, [], zt_X0_isSet) := rfl
theorem m_X0_isInSet : zm_ms 7 = some (RX0, yX0_isInSet, cX0_isInSet, 3, (some .boolean), false, 2, 0, true, [], zt_X0_isInSet) := rfl
theorem m_X0_firstOn : zm_ms 8 = some (RX0, yX0_firstOn, cX0_firstOn, 8, (some .int), false, 1, 0, false, [12], zt_X0_firstOn) := rfl
theorem m_X0_hasPlayer : zm_ms 9 = some (RX0, yX0_hasPlayer, cX0_hasPlayer, 2, (some .boolean), false, 1, 0, true, [], zt_X0_hasPlayer) := rfl
theorem m_X0_areTwoPlayers : zm_ms 10 = some (RX0, yX0_areTwoPlayers, cX0_areTwoPlayers, 3, (some .boolean), false, 2, 0, true, [], zt_X0_areTwoPlayers) := rfl
theorem m_X0_addPlayer : zm_ms 11 = some (RX0, yX0_addPlayer, cX0_addPlayer, 3, (some .boolean), false, 2, 0, true, [], zt_X0_addPlayer) := rfl
theorem m_X0_firstPick : zm_ms 12 = some (RX0, yX0_firstPick, cX0_firstPick, 2, (some .int), false, 1, 0, false, [5], zt_X0_firstPick) := rfl
theorem m_X0_pickAgainst : zm_ms 13 = some (RX0, yX0_pickAgainst, cX0_pickAgainst, 4, (some .int), false, 2, 0, false, [5, 20, 78, 99], zt_X0_pickAgainst) := rfl
theorem m_X0_wins : zm_ms 14 = some (RX0, yX0_wins, cX0_wins, 5, (some .int), false, 1, 0, false, [5, 31, 54], zt_X0_wins) := rfl
theorem m_X0_addRow : zm_ms 15 = some (RX0, yX0_addRow, cX0_addRow, 3, (some .boolean), false, 2, 0, true, [], zt_X0_addRow) := rfl
theorem m_X0_followPlan : zm_ms 16 = some (RX0, yX0_followPlan, cX0_followPlan, 5, none, false, 1, 0, false, [2, 54], zt_X0_followPlan) := rfl
theorem m_X1_nextSeed : zm_ms 17 = some (RX1, yX1_nextSeed, cX1_nextSeed, 1, (some .int), true, 1, 0, false, [], zt_X1_nextSeed) := rfl
theorem m_X1_drawn : zm_ms 18 = some (RX1, yX1_drawn, cX1_drawn, 2, (some .int), true, 2, 0, false, [], zt_X1_drawn) := rfl
theorem m_X1_run : zm_ms 19 = some (RX1, yX1_run, cX1_run, 7, none, false, 4, 1, false, [17, 54, 72, 89], zt_X1_run) := rfl
theorem m_X2_fill : zm_ms 20 = some (RX2, yX2_fill, cX2_fill, 4, none, false, 2, 2, false, [15, 37, 53], zt_X2_fill) := rfl
theorem m_X2_hasOneInAnother : zm_ms 21 = some (RX2, yX2_hasOneInAnother, cX2_hasOneInAnother, 3, (some .boolean), false, 0, 2, true, [2, 12], zt_X2_hasOneInAnother) := rfl
theorem m_X2_chancePart : zm_ms 22 = some (RX2, yX2_chancePart, cX2_chancePart, 3, (some .long), false, 2, 2, false, [], zt_X2_chancePart) := rfl
theorem m_X2_meanPart : zm_ms 23 = some (RX2, yX2_meanPart, cX2_meanPart, 5, (some .long), false, 1, 2, false, [9, 25], zt_X2_meanPart) := rfl
theorem m_X2_setApart : zm_ms 24 = some (RX2, yX2_setApart, cX2_setApart, 3, none, false, 0, 2, false, [2, 14, 50, 69], zt_X2_setApart) := rfl
theorem m_X2_weight : zm_ms 25 = some (RX2, yX2_weight, cX2_weight, 4, (some .long), false, 1, 2, false, [], zt_X2_weight) := rfl
theorem m_X2_wholeWeight : zm_ms 26 = some (RX2, yX2_wholeWeight, cX2_wholeWeight, 4, (some .long), false, 0, 2, false, [4], zt_X2_wholeWeight) := rfl
theorem m_X2_minor : zm_ms 27 = some (RX2, yX2_minor, cX2_minor, 8, (some .long), true, 4, 0, false, [27], zt_X2_minor) := rfl
theorem m_X2_rowsWithin : zm_ms 28 = some (RX2, yX2_rowsWithin, cX2_rowsWithin, 5, (some .int), false, 2, 2, false, [24], zt_X2_rowsWithin) := rfl
theorem m_X2_countEndings : zm_ms 29 = some (RX2, yX2_countEndings, cX2_countEndings, 4, none, false, 1, 2, false, [9, 41, 62], zt_X2_countEndings) := rfl
theorem m_X2_endingsAt : zm_ms 30 = some (RX2, yX2_endingsAt, cX2_endingsAt, 8, (some .int), false, 2, 2, false, [10, 29, 59], zt_X2_endingsAt) := rfl
theorem m_X3_isPart : zm_ms 31 = some (RX3, yX3_isPart, cX3_isPart, 1, (some .boolean), true, 1, 0, true, [], zt_X3_isPart) := rfl
theorem m_X3_partOf : zm_ms 32 = some (RX3, yX3_partOf, cX3_partOf, 9, (some .long), true, 3, 0, false, [], zt_X3_partOf) := rfl
theorem m_X3_commonDivisor : zm_ms 33 = some (RX3, yX3_commonDivisor, cX3_commonDivisor, 11, (some .long), true, 2, 0, false, [9], zt_X3_commonDivisor) := rfl
theorem m_X4_share : zm_ms 34 = some (RX4, yX4_share, cX4_share, 3, (some .int), true, 3, 0, false, [], zt_X4_share) := rfl
theorem m_X4_chancePart : zm_ms 35 = some (RX4, yX4_chancePart, cX4_chancePart, 5, (some .long), true, 4, 0, false, [], zt_X4_chancePart) := rfl
theorem m_X4_beats : zm_ms 36 = some (RX4, yX4_beats, cX4_beats, 3, (some .boolean), true, 3, 0, true, [], zt_X4_beats) := rfl
theorem m_X4_bestAnswer : zm_ms 37 = some (RX4, yX4_bestAnswer, cX4_bestAnswer, 10, (some .int), true, 2, 0, false, [27, 99], zt_X4_bestAnswer) := rfl
theorem m_X5_wordAt : zm_ms 38 = some (RX5, yX5_wordAt, cX5_wordAt, 2, (some .int), false, 1, 3, false, [], zt_X5_wordAt) := rfl
theorem m_X5_find : zm_ms 39 = some (RX5, yX5_find, cX5_find, 5, (some .int), false, 1, 3, false, [12, 27, 44, 51, 81], zt_X5_find) := rfl
theorem m_X5_closes : zm_ms 40 = some (RX5, yX5_closes, cX5_closes, 5, (some .boolean), true, 4, 0, true, [34, 64], zt_X5_closes) := rfl
theorem m_X5_isBeaten : zm_ms 41 = some (RX5, yX5_isBeaten, cX5_isBeaten, 3, (some .boolean), false, 2, 3, true, [], zt_X5_isBeaten) := rfl
theorem m_X6_copyFrom : zm_ms 42 = some (RX6, yX6_copyFrom, cX6_copyFrom, 2, none, false, 1, 4, false, [], zt_X6_copyFrom) := rfl
theorem m_X6_hasPlace : zm_ms 43 = some (RX6, yX6_hasPlace, cX6_hasPlace, 2, (some .boolean), false, 1, 4, true, [], zt_X6_hasPlace) := rfl
theorem m_X6_letterAt : zm_ms 44 = some (RX6, yX6_letterAt, cX6_letterAt, 2, (some .int), false, 1, 4, false, [5], zt_X6_letterAt) := rfl
theorem m_X6_append : zm_ms 45 = some (RX6, yX6_append, cX6_append, 2, (some .boolean), false, 1, 4, true, [], zt_X6_append) := rfl
theorem m_X6_dropLast : zm_ms 46 = some (RX6, yX6_dropLast, cX6_dropLast, 2, none, false, 1, 4, false, [], zt_X6_dropLast) := rfl
theorem m_X6_putOneOn : zm_ms 47 = some (RX6, yX6_putOneOn, cX6_putOneOn, 3, none, false, 1, 4, false, [2, 31], zt_X6_putOneOn) := rfl
theorem m_X6_endBits : zm_ms 48 = some (RX6, yX6_endBits, cX6_endBits, 6, (some .long), false, 1, 4, false, [8], zt_X6_endBits) := rfl
theorem m_X6_firstEnd : zm_ms 49 = some (RX6, yX6_firstEnd, cX6_firstEnd, 4, (some .int), false, 1, 4, false, [4], zt_X6_firstEnd) := rfl
theorem m_X6_matched : zm_ms 50 = some (RX6, yX6_matched, cX6_matched, 4, (some .int), false, 1, 4, false, [9, 38], zt_X6_matched) := rfl
theorem m_X7_append : zm_ms 51 = some (RX7, yX7_append, cX7_append, 2, (some .boolean), false, 1, 5, true, [], zt_X7_append) := rfl
theorem m_X7_read : zm_ms 52 = some (RX7, yX7_read, cX7_read, 3, (some .int), false, 1, 5, false, [17, 57], zt_X7_read) := rfl
theorem m_X7_goesOn : zm_ms 53 = some (RX7, yX7_goesOn, cX7_goesOn, 4, (some .boolean), false, 2, 5, true, [], zt_X7_goesOn) := rfl
theorem m_X7_addLetters : zm_ms 54 = some (RX7, yX7_addLetters, cX7_addLetters, 4, (some .boolean), false, 2, 5, true, [17], zt_X7_addLetters) := rfl
theorem m_X7_endClause : zm_ms 55 = some (RX7, yX7_endClause, cX7_endClause, 1, (some .boolean), false, 0, 5, true, [], zt_X7_endClause) := rfl
theorem m_X8_tens : zm_ms 56 = some (RX8, yX8_tens, cX8_tens, 1, (some .int), true, 1, 0, false, [], zt_X8_tens) := rfl
theorem m_X8_length : zm_ms 57 = some (RX8, yX8_length, cX8_length, 1, (some .int), true, 1, 0, false, [], zt_X8_length) := rfl
theorem m_X8_isWord : zm_ms 58 = some (RX8, yX8_isWord, cX8_isWord, 4, (some .boolean), true, 2, 0, true, [20], zt_X8_isWord) := rfl
theorem m_X8_letterAt : zm_ms 59 = some (RX8, yX8_letterAt, cX8_letterAt, 2, (some .int), true, 2, 0, false, [], zt_X8_letterAt) := rfl
theorem m_X8_firstLetters : zm_ms 60 = some (RX8, yX8_firstLetters, cX8_firstLetters, 2, (some .int), true, 2, 0, false, [], zt_X8_firstLetters) := rfl
theorem m_X8_lastLetters : zm_ms 61 = some (RX8, yX8_lastLetters, cX8_lastLetters, 2, (some .int), true, 2, 0, false, [], zt_X8_lastLetters) := rfl
theorem m_X8_grown : zm_ms 62 = some (RX8, yX8_grown, cX8_grown, 2, (some .int), true, 2, 0, false, [], zt_X8_grown) := rfl
theorem m_X8_endsWith : zm_ms 63 = some (RX8, yX8_endsWith, cX8_endsWith, 2, (some .boolean), true, 2, 0, true, [], zt_X8_endsWith) := rfl
theorem m_X8_overlapBits : zm_ms 64 = some (RX8, yX8_overlapBits, cX8_overlapBits, 6, (some .int), true, 2, 0, false, [20], zt_X8_overlapBits) := rfl
theorem m_X8_numberOn : zm_ms 65 = some (RX8, yX8_numberOn, cX8_numberOn, 7, (some .int), true, 3, 0, false, [15], zt_X8_numberOn) := rfl
theorem m_X8_standsIn : zm_ms 66 = some (RX8, yX8_standsIn, cX8_standsIn, 5, (some .boolean), true, 2, 0, true, [21], zt_X8_standsIn) := rfl
theorem m_X8_clash : zm_ms 67 = some (RX8, yX8_clash, cX8_clash, 2, (some .boolean), true, 2, 0, true, [], zt_X8_clash) := rfl
theorem m_X8_oneOn : zm_ms 68 = some (RX8, yX8_oneOn, cX8_oneOn, 2, (some .int), true, 2, 0, false, [], zt_X8_oneOn) := rfl
theorem m_X8_turned : zm_ms 69 = some (RX8, yX8_turned, cX8_turned, 3, (some .int), true, 1, 0, false, [9], zt_X8_turned) := rfl
theorem m_X8_shifted : zm_ms 70 = some (RX8, yX8_shifted, cX8_shifted, 5, (some .int), true, 2, 0, false, [10], zt_X8_shifted) := rfl
theorem m_X8_doubled : zm_ms 71 = some (RX8, yX8_doubled, cX8_doubled, 1, (some .int), true, 1, 0, false, [], zt_X8_doubled) := rfl
theorem m_X8_answering : zm_ms 72 = some (RX8, yX8_answering, cX8_answering, 3, (some .int), true, 2, 0, false, [], zt_X8_answering) := rfl
theorem m_X8_ledBy : zm_ms 73 = some (RX8, yX8_ledBy, cX8_ledBy, 2, (some .int), true, 2, 0, false, [], zt_X8_ledBy) := rfl
theorem m_X8_least : zm_ms 74 = some (RX8, yX8_least, cX8_least, 1, (some .int), true, 1, 0, false, [], zt_X8_least) := rfl
theorem m_X8_following : zm_ms 75 = some (RX8, yX8_following, cX8_following, 6, (some .int), true, 2, 0, false, [10], zt_X8_following) := rfl
theorem m_X9_sides : zm_ms 76 = some (RX9, yX9_sides, cX9_sides, 3, (some .int), false, 1, 6, false, [25], zt_X9_sides) := rfl
theorem m_X9_feed : zm_ms 77 = some (RX9, yX9_feed, cX9_feed, 2, (some .int), false, 1, 6, false, [22], zt_X9_feed) := rfl
theorem m_X9_words : zm_ms 78 = some (RX9, yX9_words, cX9_words, 3, (some .int), false, 0, 6, false, [14, 58], zt_X9_words) := rfl
theorem m_X9_becomes : zm_ms 79 = some (RX9, yX9_becomes, cX9_becomes, 4, (some .int), false, 2, 6, false, [8, 24], zt_X9_becomes) := rfl
theorem m_X9_of : zm_ms 80 = some (RX9, yX9_of, cX9_of, 4, (some .int), false, 2, 6, false, [8, 21], zt_X9_of) := rfl
theorem m_X9_overlaps : zm_ms 81 = some (RX9, yX9_overlaps, cX9_overlaps, 3, (some .int), false, 2, 6, false, [8, 19, 32], zt_X9_overlaps) := rfl
theorem m_X9_number : zm_ms 82 = some (RX9, yX9_number, cX9_number, 3, (some .int), false, 2, 6, false, [8, 19, 32, 40], zt_X9_number) := rfl
theorem m_X9_isIn : zm_ms 83 = some (RX9, yX9_isIn, cX9_isIn, 3, (some .int), false, 2, 6, false, [8, 19, 32], zt_X9_isIn) := rfl
theorem m_X9_chance : zm_ms 84 = some (RX9, yX9_chance, cX9_chance, 4, (some .long), false, 3, 6, false, [8, 26, 41, 49], zt_X9_chance) := rfl
theorem m_X9_answered : zm_ms 85 = some (RX9, yX9_answered, cX9_answered, 4, (some .long), false, 2, 6, false, [15, 30, 42], zt_X9_answered) := rfl
theorem m_X9_trail : zm_ms 86 = some (RX9, yX9_trail, cX9_trail, 3, (some .int), false, 2, 6, false, [8], zt_X9_trail) := rfl
theorem m_X9_ring : zm_ms 87 = some (RX9, yX9_ring, cX9_ring, 3, (some .int), false, 1, 6, false, [11], zt_X9_ring) := rfl
theorem m_X9_field : zm_ms 88 = some (RX9, yX9_field, cX9_field, 4, (some .long), false, 3, 6, false, [5, 24], zt_X9_field) := rfl
theorem m_X9_mean : zm_ms 89 = some (RX9, yX9_mean, cX9_mean, 3, (some .long), false, 2, 6, false, [12], zt_X9_mean) := rfl
theorem m_X9_within : zm_ms 90 = some (RX9, yX9_within, cX9_within, 4, (some .int), false, 3, 6, false, [8, 29, 58, 65], zt_X9_within) := rfl
theorem m_X9_cast : zm_ms 91 = some (RX9, yX9_cast, cX9_cast, 2, (some .int), false, 1, 6, false, [30], zt_X9_cast) := rfl
theorem m_X9_casts : zm_ms 92 = some (RX9, yX9_casts, cX9_casts, 5, (some .int), false, 2, 6, false, [19, 29], zt_X9_casts) := rfl
theorem m_X9_wipe : zm_ms 93 = some (RX9, yX9_wipe, cX9_wipe, 2, (some .int), false, 0, 6, false, [], zt_X9_wipe) := rfl
theorem m_X9_strip : zm_ms 94 = some (RX9, yX9_strip, cX9_strip, 2, (some .int), false, 1, 6, false, [11], zt_X9_strip) := rfl
theorem m_X9_ends : zm_ms 95 = some (RX9, yX9_ends, cX9_ends, 2, (some .long), false, 1, 6, false, [8], zt_X9_ends) := rfl
theorem m_X9_seen : zm_ms 96 = some (RX9, yX9_seen, cX9_seen, 4, (some .int), false, 2, 6, false, [8, 21], zt_X9_seen) := rfl
theorem m_X9_who : zm_ms 97 = some (RX9, yX9_who, cX9_who, 1, (some .int), false, 0, 6, false, [], zt_X9_who) := rfl
theorem m_X9_were : zm_ms 98 = some (RX9, yX9_were, cX9_were, 5, (some .int), false, 2, 6, false, [11, 22, 46], zt_X9_were) := rfl
theorem m_X9_player : zm_ms 99 = some (RX9, yX9_player, cX9_player, 3, (some .int), false, 2, 6, false, [18, 32], zt_X9_player) := rfl
theorem m_X9_playerOf : zm_ms 100 = some (RX9, yX9_playerOf, cX9_playerOf, 3, (some .int), false, 2, 6, false, [8], zt_X9_playerOf) := rfl
theorem m_X9_pick : zm_ms 101 = some (RX9, yX9_pick, cX9_pick, 4, (some .int), false, 3, 6, false, [9], zt_X9_pick) := rfl
theorem m_X9_match : zm_ms 102 = some (RX9, yX9_match, cX9_match, 5, (some .long), false, 3, 6, false, [16, 31, 45], zt_X9_match) := rfl
theorem m_X9_duel : zm_ms 103 = some (RX9, yX9_duel, cX9_duel, 7, (some .int), false, 4, 6, false, [9, 33, 52, 77], zt_X9_duel) := rfl
theorem m_X9_odds : zm_ms 104 = some (RX9, yX9_odds, cX9_odds, 10, (some .long), false, 5, 6, false, [30, 45, 77, 106], zt_X9_odds) := rfl
theorem m_X9_plan : zm_ms 105 = some (RX9, yX9_plan, cX9_plan, 3, (some .int), false, 2, 6, false, [37, 52], zt_X9_plan) := rfl
theorem m_X9_behind : zm_ms 106 = some (RX9, yX9_behind, cX9_behind, 3, (some .int), false, 1, 6, false, [11, 41, 52], zt_X9_behind) := rfl
theorem m_X9_write : zm_ms 107 = some (RX9, yX9_write, cX9_write, 2, (some .int), false, 1, 6, false, [18], zt_X9_write) := rfl
theorem m_X9_paper : zm_ms 108 = some (RX9, yX9_paper, cX9_paper, 2, (some .int), false, 1, 6, false, [], zt_X9_paper) := rfl
theorem m_X9_judge : zm_ms 109 = some (RX9, yX9_judge, cX9_judge, 4, (some .int), false, 1, 6, false, [4, 23, 47, 68], zt_X9_judge) := rfl
theorem m_X9_list : zm_ms 110 = some (RX9, yX9_list, cX9_list, 3, (some .int), false, 2, 6, false, [4], zt_X9_list) := rfl
theorem m_X9_put : zm_ms 111 = some (RX9, yX9_put, cX9_put, 4, (some .int), false, 3, 6, false, [4, 27], zt_X9_put) := rfl
theorem m_X9_get : zm_ms 112 = some (RX9, yX9_get, cX9_get, 3, (some .long), false, 2, 6, false, [13], zt_X9_get) := rfl
theorem m_X9_image : zm_ms 113 = some (RX9, yX9_image, cX9_image, 1, (some .int), false, 0, 6, false, [11], zt_X9_image) := rfl
theorem m_X9_undo : zm_ms 114 = some (RX9, yX9_undo, cX9_undo, 1, (some .int), false, 0, 6, false, [21], zt_X9_undo) := rfl
theorem m_X9_count : zm_ms 115 = some (RX9, yX9_count, cX9_count, 2, (some .int), false, 1, 6, false, [], zt_X9_count) := rfl
theorem m_X9_trailLength : zm_ms 116 = some (RX9, yX9_trailLength, cX9_trailLength, 6, (some .int), false, 2, 6, false, [9, 39], zt_X9_trailLength) := rfl
theorem m_X9_isRacingField : zm_ms 117 = some (RX9, yX9_isRacingField, cX9_isRacingField, 3, (some .boolean), false, 1, 6, true, [17, 42], zt_X9_isRacingField) := rfl
theorem m_X9_placeInSet : zm_ms 118 = some (RX9, yX9_placeInSet, cX9_placeInSet, 2, (some .int), true, 2, 0, false, [], zt_X9_placeInSet) := rfl
theorem m_X9_mostOfRow : zm_ms 119 = some (RX9, yX9_mostOfRow, cX9_mostOfRow, 1, (some .int), true, 1, 0, false, [], zt_X9_mostOfRow) := rfl
theorem m_X9_writeStrip : zm_ms 120 = some (RX9, yX9_writeStrip, cX9_writeStrip, 2, (some .int), false, 0, 6, false, [16, 50], zt_X9_writeStrip) := rfl
theorem m_X9_writeWord : zm_ms 121 = some (RX9, yX9_writeWord, cX9_writeWord, 3, (some .int), false, 1, 6, false, [5, 10, 37], zt_X9_writeWord) := rfl
theorem m_X9_signOf : zm_ms 122 = some (RX9, yX9_signOf, cX9_signOf, 1, (some .int), true, 1, 0, false, [], zt_X9_signOf) := rfl
theorem m_X9_hasList : zm_ms 123 = some (RX9, yX9_hasList, cX9_hasList, 1, (some .boolean), true, 1, 0, true, [], zt_X9_hasList) := rfl
theorem m_X9_hasListPlace : zm_ms 124 = some (RX9, yX9_hasListPlace, cX9_hasListPlace, 3, (some .boolean), false, 2, 6, true, [], zt_X9_hasListPlace) := rfl
theorem m_X10_in : zm_ms 125 = some (RX10, yX10_in, cX10_in, 3, (some .boolean), true, 3, 0, true, [], zt_X10_in) := rfl
theorem m_X10_isWord : zm_ms 126 = some (RX10, yX10_isWord, cX10_isWord, 2, (some .boolean), false, 1, 7, true, [], zt_X10_isWord) := rfl
theorem m_X10_isPart : zm_ms 127 = some (RX10, yX10_isPart, cX10_isPart, 1, (some .boolean), true, 1, 0, true, [], zt_X10_isPart) := rfl
theorem m_X10_isList : zm_ms 128 = some (RX10, yX10_isList, cX10_isList, 1, (some .boolean), true, 1, 0, true, [], zt_X10_isList) := rfl
theorem m_X10_ten : zm_ms 129 = some (RX10, yX10_ten, cX10_ten, 3, (some .int), true, 1, 0, false, [4], zt_X10_ten) := rfl
theorem m_X10_sizeOf : zm_ms 130 = some (RX10, yX10_sizeOf, cX10_sizeOf, 3, (some .int), true, 1, 0, false, [4], zt_X10_sizeOf) := rfl
theorem m_X10_letterOf : zm_ms 131 = some (RX10, yX10_letterOf, cX10_letterOf, 2, (some .int), true, 2, 0, false, [], zt_X10_letterOf) := rfl
theorem m_X10_hasThird : zm_ms 132 = some (RX10, yX10_hasThird, cX10_hasThird, 2, (some .boolean), true, 1, 0, true, [2], zt_X10_hasThird) := rfl
theorem m_X10_isSuch : zm_ms 133 = some (RX10, yX10_isSuch, cX10_isSuch, 3, (some .boolean), false, 1, 7, true, [17], zt_X10_isSuch) := rfl
theorem m_X10_on : zm_ms 134 = some (RX10, yX10_on, cX10_on, 2, (some .int), false, 1, 7, false, [], zt_X10_on) := rfl
theorem m_X10_overlap : zm_ms 135 = some (RX10, yX10_overlap, cX10_overlap, 6, (some .int), true, 2, 0, false, [20], zt_X10_overlap) := rfl
theorem m_X10_numberOf : zm_ms 136 = some (RX10, yX10_numberOf, cX10_numberOf, 7, (some .int), false, 2, 7, false, [15], zt_X10_numberOf) := rfl
theorem m_X10_stands : zm_ms 137 = some (RX10, yX10_stands, cX10_stands, 4, (some .boolean), true, 2, 0, true, [10], zt_X10_stands) := rfl
theorem m_X10_areApart : zm_ms 138 = some (RX10, yX10_areApart, cX10_areApart, 2, (some .boolean), true, 2, 0, true, [], zt_X10_areApart) := rfl
theorem m_X10_weight : zm_ms 139 = some (RX10, yX10_weight, cX10_weight, 3, (some .int), false, 2, 7, false, [], zt_X10_weight) := rfl
theorem m_X10_beats : zm_ms 140 = some (RX10, yX10_beats, cX10_beats, 3, (some .boolean), false, 2, 7, true, [], zt_X10_beats) := rfl
theorem m_X10_bestAnswer : zm_ms 141 = some (RX10, yX10_bestAnswer, cX10_bestAnswer, 9, (some .int), false, 1, 7, false, [16], zt_X10_bestAnswer) := rfl
theorem m_X10_lowest : zm_ms 142 = some (RX10, yX10_lowest, cX10_lowest, 11, (some .long), true, 3, 0, false, [28], zt_X10_lowest) := rfl
theorem m_X10_chanceOf : zm_ms 143 = some (RX10, yX10_chanceOf, cX10_chanceOf, 5, (some .long), false, 3, 7, false, [], zt_X10_chanceOf) := rfl
theorem m_X10_sides : zm_ms 144 = some (RX10, yX10_sides, cX10_sides, 3, (some .int), false, 1, 7, false, [6, 19, 50], zt_X10_sides) := rfl
theorem m_X10_feed : zm_ms 145 = some (RX10, yX10_feed, cX10_feed, 2, (some .int), false, 1, 7, false, [7], zt_X10_feed) := rfl
theorem m_X10_sign : zm_ms 146 = some (RX10, yX10_sign, cX10_sign, 2, (some .int), false, 1, 7, false, [], zt_X10_sign) := rfl
theorem m_X10_reads : zm_ms 147 = some (RX10, yX10_reads, cX10_reads, 8, (some .int), false, 0, 7, false, [4, 9, 14, 28, 105], zt_X10_reads) := rfl
theorem m_X10_words : zm_ms 148 = some (RX10, yX10_words, cX10_words, 3, (some .int), false, 0, 7, false, [4, 32], zt_X10_words) := rfl
theorem m_X10_becomes : zm_ms 149 = some (RX10, yX10_becomes, cX10_becomes, 4, (some .int), false, 2, 7, false, [15], zt_X10_becomes) := rfl
theorem m_X10_of : zm_ms 150 = some (RX10, yX10_of, cX10_of, 4, (some .int), false, 2, 7, false, [5], zt_X10_of) := rfl
theorem m_X10_overlaps : zm_ms 151 = some (RX10, yX10_overlaps, cX10_overlaps, 3, (some .int), false, 2, 7, false, [13], zt_X10_overlaps) := rfl
theorem m_X10_number : zm_ms 152 = some (RX10, yX10_number, cX10_number, 3, (some .int), false, 2, 7, false, [13], zt_X10_number) := rfl
theorem m_X10_isIn : zm_ms 153 = some (RX10, yX10_isIn, cX10_isIn, 3, (some .int), false, 2, 7, false, [13], zt_X10_isIn) := rfl
theorem m_X10_chance : zm_ms 154 = some (RX10, yX10_chance, cX10_chance, 4, (some .long), false, 3, 7, false, [20, 38], zt_X10_chance) := rfl
theorem m_X10_answered : zm_ms 155 = some (RX10, yX10_answered, cX10_answered, 4, (some .long), false, 2, 7, false, [12], zt_X10_answered) := rfl
theorem m_X10_trail : zm_ms 156 = some (RX10, yX10_trail, cX10_trail, 6, (some .int), false, 2, 7, false, [14, 29, 32], zt_X10_trail) := rfl
theorem m_X10_rings : zm_ms 157 = some (RX10, yX10_rings, cX10_rings, 6, (some .boolean), false, 2, 7, true, [36, 84], zt_X10_rings) := rfl
theorem m_X10_ring : zm_ms 158 = some (RX10, yX10_ring, cX10_ring, 3, (some .int), false, 1, 7, false, [2, 39], zt_X10_ring) := rfl
theorem m_X10_sets : zm_ms 159 = some (RX10, yX10_sets, cX10_sets, 4, (some .boolean), false, 1, 7, true, [23, 30], zt_X10_sets) := rfl
theorem m_X10_isField : zm_ms 160 = some (RX10, yX10_isField, cX10_isField, 3, (some .boolean), false, 0, 7, true, [2, 12], zt_X10_isField) := rfl
theorem m_X10_square : zm_ms 161 = some (RX10, yX10_square, cX10_square, 9, (some .long), false, 3, 7, false, [16], zt_X10_square) := rfl
theorem m_X10_fills : zm_ms 162 = some (RX10, yX10_fills, cX10_fills, 7, none, false, 1, 7, false, [7, 15, 74], zt_X10_fills) := rfl
theorem m_X10_solved : zm_ms 163 = some (RX10, yX10_solved, cX10_solved, 5, (some .long), false, 2, 7, false, [5, 23], zt_X10_solved) := rfl
theorem m_X10_field : zm_ms 164 = some (RX10, yX10_field, cX10_field, 5, (some .long), false, 3, 7, false, [5, 57], zt_X10_field) := rfl
theorem m_X10_mean : zm_ms 165 = some (RX10, yX10_mean, cX10_mean, 3, (some .long), false, 2, 7, false, [5, 31], zt_X10_mean) := rfl
theorem m_X10_fourOf : zm_ms 166 = some (RX10, yX10_fourOf, cX10_fourOf, 3, (some .int), true, 1, 0, false, [4], zt_X10_fourOf) := rfl
theorem m_X10_within : zm_ms 167 = some (RX10, yX10_within, cX10_within, 10, (some .int), false, 3, 7, false, [13, 60, 95, 114, 139, 165, 185, 251], zt_X10_within) := rfl
theorem m_X10_endsBy : zm_ms 168 = some (RX10, yX10_endsBy, cX10_endsBy, 4, (some .int), false, 1, 7, false, [2, 36], zt_X10_endsBy) := rfl
theorem m_X10_cast : zm_ms 169 = some (RX10, yX10_cast, cX10_cast, 2, (some .int), false, 1, 7, false, [9], zt_X10_cast) := rfl
theorem m_X10_drawn : zm_ms 170 = some (RX10, yX10_drawn, cX10_drawn, 2, (some .int), false, 1, 7, false, [], zt_X10_drawn) := rfl
theorem m_X10_casts : zm_ms 171 = some (RX10, yX10_casts, cX10_casts, 5, (some .int), false, 2, 7, false, [18, 62], zt_X10_casts) := rfl
theorem m_X10_wipe : zm_ms 172 = some (RX10, yX10_wipe, cX10_wipe, 2, (some .int), false, 0, 7, false, [], zt_X10_wipe) := rfl
theorem m_X10_strip : zm_ms 173 = some (RX10, yX10_strip, cX10_strip, 2, (some .int), false, 1, 7, false, [11], zt_X10_strip) := rfl
theorem m_X10_endsAt : zm_ms 174 = some (RX10, yX10_endsAt, cX10_endsAt, 5, (some .boolean), false, 2, 7, true, [17], zt_X10_endsAt) := rfl
theorem m_X10_ends : zm_ms 175 = some (RX10, yX10_ends, cX10_ends, 5, (some .long), false, 1, 7, false, [17], zt_X10_ends) := rfl
theorem m_X10_firstOf : zm_ms 176 = some (RX10, yX10_firstOf, cX10_firstOf, 3, (some .int), false, 1, 7, false, [2], zt_X10_firstOf) := rfl
theorem m_X10_matched : zm_ms 177 = some (RX10, yX10_matched, cX10_matched, 5, (some .int), false, 1, 7, false, [4, 12, 21], zt_X10_matched) := rfl
theorem m_X10_seen : zm_ms 178 = some (RX10, yX10_seen, cX10_seen, 3, (some .int), false, 2, 7, false, [14], zt_X10_seen) := rfl
theorem m_X10_who : zm_ms 179 = some (RX10, yX10_who, cX10_who, 5, (some .int), false, 0, 7, false, [8, 21, 51], zt_X10_who) := rfl
theorem m_X10_were : zm_ms 180 = some (RX10, yX10_were, cX10_were, 6, (some .int), false, 2, 7, false, [19, 37], zt_X10_were) := rfl
theorem m_X10_player : zm_ms 181 = some (RX10, yX10_player, cX10_player, 3, (some .int), false, 2, 7, false, [14], zt_X10_player) := rfl
theorem m_X10_isPlayer : zm_ms 182 = some (RX10, yX10_isPlayer, cX10_isPlayer, 2, (some .boolean), false, 1, 7, true, [], zt_X10_isPlayer) := rfl
theorem m_X10_turned : zm_ms 183 = some (RX10, yX10_turned, cX10_turned, 3, (some .int), true, 1, 0, false, [4], zt_X10_turned) := rfl
theorem m_X10_shifted : zm_ms 184 = some (RX10, yX10_shifted, cX10_shifted, 4, (some .int), false, 1, 7, false, [4], zt_X10_shifted) := rfl
theorem m_X10_ahead : zm_ms 185 = some (RX10, yX10_ahead, cX10_ahead, 2, (some .int), true, 2, 0, false, [], zt_X10_ahead) := rfl
theorem m_X10_picks : zm_ms 186 = some (RX10, yX10_picks, cX10_picks, 5, (some .int), false, 2, 7, false, [], zt_X10_picks) := rfl
theorem m_X10_firstPick : zm_ms 187 = some (RX10, yX10_firstPick, cX10_firstPick, 2, (some .int), false, 1, 7, false, [], zt_X10_firstPick) := rfl
theorem m_X10_wins : zm_ms 188 = some (RX10, yX10_wins, cX10_wins, 5, (some .int), false, 1, 7, false, [11], zt_X10_wins) := rfl
theorem m_X10_playerOf : zm_ms 189 = some (RX10, yX10_playerOf, cX10_playerOf, 3, (some .int), false, 2, 7, false, [14], zt_X10_playerOf) := rfl
theorem m_X10_areTwo : zm_ms 190 = some (RX10, yX10_areTwo, cX10_areTwo, 3, (some .boolean), false, 2, 7, true, [], zt_X10_areTwo) := rfl
theorem m_X10_pick : zm_ms 191 = some (RX10, yX10_pick, cX10_pick, 5, (some .int), false, 3, 7, false, [], zt_X10_pick) := rfl
theorem m_X10_match : zm_ms 192 = some (RX10, yX10_match, cX10_match, 6, (some .long), false, 3, 7, false, [], zt_X10_match) := rfl
theorem m_X10_duels : zm_ms 193 = some (RX10, yX10_duels, cX10_duels, 7, (some .int), false, 3, 7, false, [9], zt_X10_duels) := rfl
theorem m_X10_duel : zm_ms 194 = some (RX10, yX10_duel, cX10_duel, 6, (some .int), false, 4, 7, false, [28, 48], zt_X10_duel) := rfl
theorem m_X10_odds : zm_ms 195 = some (RX10, yX10_odds, cX10_odds, 8, (some .long), false, 5, 7, false, [37, 68], zt_X10_odds) := rfl
theorem m_X10_plan : zm_ms 196 = some (RX10, yX10_plan, cX10_plan, 3, (some .int), false, 2, 7, false, [47], zt_X10_plan) := rfl
theorem m_X10_does : zm_ms 197 = some (RX10, yX10_does, cX10_does, 5, none, false, 2, 7, false, [80, 88, 114], zt_X10_does) := rfl
theorem m_X10_behind : zm_ms 198 = some (RX10, yX10_behind, cX10_behind, 4, (some .int), false, 1, 7, false, [6, 28, 43, 69, 130, 141], zt_X10_behind) := rfl
theorem m_X10_write : zm_ms 199 = some (RX10, yX10_write, cX10_write, 3, (some .int), false, 1, 7, false, [10, 37, 42, 81], zt_X10_write) := rfl
theorem m_X10_paper : zm_ms 200 = some (RX10, yX10_paper, cX10_paper, 2, (some .int), false, 1, 7, false, [11], zt_X10_paper) := rfl
theorem m_X10_judge : zm_ms 201 = some (RX10, yX10_judge, cX10_judge, 3, (some .int), false, 1, 7, false, [4, 23], zt_X10_judge) := rfl
theorem m_X10_list : zm_ms 202 = some (RX10, yX10_list, cX10_list, 4, (some .int), false, 2, 7, false, [4, 34], zt_X10_list) := rfl
theorem m_X10_put : zm_ms 203 = some (RX10, yX10_put, cX10_put, 4, (some .int), false, 3, 7, false, [4, 34], zt_X10_put) := rfl
theorem m_X10_get : zm_ms 204 = some (RX10, yX10_get, cX10_get, 3, (some .long), false, 2, 7, false, [4, 20], zt_X10_get) := rfl
theorem m_X10_image : zm_ms 205 = some (RX10, yX10_image, cX10_image, 2, (some .int), false, 0, 7, false, [57, 85, 114, 157], zt_X10_image) := rfl
theorem m_X10_undo : zm_ms 206 = some (RX10, yX10_undo, cX10_undo, 2, (some .int), false, 0, 7, false, [62, 90, 119, 162], zt_X10_undo) := rfl
theorem m_X10_count : zm_ms 207 = some (RX10, yX10_count, cX10_count, 2, (some .int), false, 1, 7, false, [], zt_X10_count) := rfl
theorem m_J6_bitCount_0f7a4 : zm_ms 208 = some (RJ6, yJ6_bitCount_0f7a4, cJ6_bitCount_0f7a4, 1, (some .int), true, 1, 0, false, [], zt_J6_bitCount_0f7a4) := rfl
theorem m_J13_bitCount_95d88 : zm_ms 209 = some (RJ13, yJ13_bitCount_95d88, cJ13_bitCount_95d88, 2, (some .int), true, 1, 0, false, [], zt_J13_bitCount_95d88) := rfl
theorem m_J7_fill_53178 : zm_ms 210 = some (RJ7, yJ7_fill_53178, cJ7_fill_53178, 4, none, true, 2, 0, false, [5], zt_J7_fill_53178) := rfl
theorem zm_C_eq {μ : Nat} {own : String} {y : MethodName} {cc : ByteArray} {nL : Nat} {ret : Option FieldType} {stt : Bool} {n ci : Nat} {rb : Bool} {cuts : List Nat} {T : zm_T} (hm : zm_ms μ = some (own, y, cc, nL, ret, stt, n, ci, rb, cuts, T)) (d : Nat) (as : List Value) (h : zm_H) (hl : Nat.ble (zm_ent as).length nL = true) : zC (d + 1) μ as h = zm_blk T cuts rb none (zC d) (zR d 10000000 μ) 3000 0 (zm_pad nL (zm_ent as)) [] h := by
  have hk : zR d 10000000 μ = zm_run T cuts rb none (zm_meth zm_ms d) 10000000 := by
    rw [zR_def]
    unfold zR_
    rw [hm]
  rw [hk, zC_def]
  rw [zm_meth]
  simp only [hm, hl, cond_true]
theorem zm_R_eq {μ : Nat} {own : String} {y : MethodName} {cc : ByteArray} {nL : Nat} {ret : Option FieldType} {stt : Bool} {n ci : Nat} {rb : Bool} {cuts : List Nat} {T : zm_T} (hm : zm_ms μ = some (own, y, cc, nL, ret, stt, n, ci, rb, cuts, T)) (d f : Nat) (pc : Nat) (lv : zm_L) (st : List Value) (h : zm_H) : zR d (f + 1) μ pc lv st h = zm_blk T cuts rb none (zC d) (zR d f μ) 3000 pc lv st h := by
  have hk : ∀ f, zR d f μ = zm_run T cuts rb none (zm_meth zm_ms d) f := fun f => by
    rw [zR_def]
    unfold zR_
    rw [hm]
  rw [hk, hk, zC_def]
  rfl
