/-! printed by wip/whole/links.py: every method's table is its code's -/
set_option maxRecDepth 100000 in
theorem zk_X0_copyFrom_t : zm_tb 0 cX0_copyFrom false none zt_X0_copyFrom = true := by decide +kernel
set_option maxRecDepth 100000 in
theorem zk_X0_copyFrom : zm_mok zm_ms (RX0, yX0_copyFrom, cX0_copyFrom, 2, none, false, 1, 0, false, [], zt_X0_copyFrom) := ⟨rfl, by decide +kernel, ⟨by decide +kernel, by decide +kernel⟩, zm_WL_in 785 rfl rfl, zm_WL_in 45 (by decide +kernel) rfl, by decide +kernel, (fun h => Bool.noConfusion h), (fun _ => ⟨zm_WL_in 783 (by decide +kernel) rfl, zm_WL_in 784 (by decide +kernel) rfl, TX0, 10, rfl⟩), by decide, zm_tb_ok rfl zk_X0_copyFrom_t⟩
set_option maxRecDepth 100000 in
theorem zk_X0_hasWord_t : zm_tb 0 cX0_hasWord true (some .boolean) zt_X0_hasWord = true := by decide +kernel
set_option maxRecDepth 100000 in
theorem zk_X0_hasWord : zm_mok zm_ms (RX0, yX0_hasWord, cX0_hasWord, 2, (some .boolean), false, 1, 0, true, [], zt_X0_hasWord) := ⟨rfl, by decide +kernel, ⟨by decide +kernel, by decide +kernel⟩, zm_WL_in 278 rfl rfl, zm_WL_in 45 (by decide +kernel) rfl, by decide +kernel, (fun h => Bool.noConfusion h), (fun _ => ⟨zm_WL_in 276 (by decide +kernel) rfl, zm_WL_in 277 (by decide +kernel) rfl, TX0, 10, rfl⟩), by decide, zm_tb_ok rfl zk_X0_hasWord_t⟩
set_option maxRecDepth 100000 in
theorem zk_X0_areTwoWords_t : zm_tb 0 cX0_areTwoWords true (some .boolean) zt_X0_areTwoWords = true := by decide +kernel
set_option maxRecDepth 100000 in
theorem zk_X0_areTwoWords : zm_mok zm_ms (RX0, yX0_areTwoWords, cX0_areTwoWords, 3, (some .boolean), false, 2, 0, true, [], zt_X0_areTwoWords) := ⟨rfl, by decide +kernel, ⟨by decide +kernel, by decide +kernel⟩, zm_WL_in 688 rfl rfl, zm_WL_in 45 (by decide +kernel) rfl, by decide +kernel, (fun h => Bool.noConfusion h), (fun _ => ⟨zm_WL_in 686 (by decide +kernel) rfl, zm_WL_in 687 (by decide +kernel) rfl, TX0, 10, rfl⟩), by decide, zm_tb_ok rfl zk_X0_areTwoWords_t⟩
set_option maxRecDepth 100000 in
theorem zk_X0_wordAt_t : zm_tb 0 cX0_wordAt false (some .int) zt_X0_wordAt = true := by decide +kernel
set_option maxRecDepth 100000 in
theorem zk_X0_wordAt : zm_mok zm_ms (RX0, yX0_wordAt, cX0_wordAt, 2, (some .int), false, 1, 0, false, [5], zt_X0_wordAt) := ⟨rfl, by decide +kernel, ⟨by decide +kernel, by decide +kernel⟩, zm_WL_in 274 rfl rfl, zm_WL_in 45 (by decide +kernel) rfl, by decide +kernel, (fun h => Bool.noConfusion h), (fun _ => ⟨zm_WL_in 272 (by decide +kernel) rfl, zm_WL_in 273 (by decide +kernel) rfl, TX0, 10, rfl⟩), by decide, zm_tb_ok rfl zk_X0_wordAt_t⟩
set_option maxRecDepth 100000 in
theorem zk_X0_addWord_t : zm_tb 0 cX0_addWord false none zt_X0_addWord = true := by decide +kernel
set_option maxRecDepth 100000 in
theorem zk_X0_addWord : zm_mok zm_ms (RX0, yX0_addWord, cX0_addWord, 2, none, false, 1, 0, false, [], zt_X0_addWord) := ⟨rfl, by decide +kernel, ⟨by decide +kernel, by decide +kernel⟩, zm_WL_in 333 rfl rfl, zm_WL_in 45 (by decide +kernel) rfl, by decide +kernel, (fun h => Bool.noConfusion h), (fun _ => ⟨zm_WL_in 331 (by decide +kernel) rfl, zm_WL_in 332 (by decide +kernel) rfl, TX0, 10, rfl⟩), by decide, zm_tb_ok rfl zk_X0_addWord_t⟩
set_option maxRecDepth 100000 in
theorem zk_X0_hasThirdLetter_t : zm_tb 0 cX0_hasThirdLetter true (some .boolean) zt_X0_hasThirdLetter = true := by decide +kernel
set_option maxRecDepth 100000 in
theorem zk_X0_hasThirdLetter : zm_mok zm_ms (RX0, yX0_hasThirdLetter, cX0_hasThirdLetter, 2, (some .boolean), false, 0, 0, true, [2, 32], zt_X0_hasThirdLetter) := ⟨rfl, by decide +kernel, ⟨by decide +kernel, by decide +kernel⟩, zm_WL_in 270 rfl rfl, zm_WL_in 45 (by decide +kernel) rfl, by decide +kernel, (fun h => Bool.noConfusion h), (fun _ => ⟨zm_WL_in 268 (by decide +kernel) rfl, zm_WL_in 269 (by decide +kernel) rfl, TX0, 10, rfl⟩), by decide, zm_tb_ok rfl zk_X0_hasThirdLetter_t⟩
set_option maxRecDepth 100000 in
theorem zk_X0_isSet_t : zm_tb 0 cX0_isSet true (some .boolean) zt_X0_isSet = true := by decide +kernel
set_option maxRecDepth 100000 in
theorem zk_X0_isSet : zm_mok zm_ms (RX0, yX0_isSet, cX0_isSet, 2, (some .boolean), false, 1, 0, true, [], zt_X0_isSet) := ⟨rfl, by decide +kernel, ⟨by decide +kernel, by decide +kernel⟩, zm_WL_in 455 rfl rfl, zm_WL_in 45 (by decide +kernel) rfl, by decide +kernel, (fun h => Bool.noConfusion h), (fun _ => ⟨zm_WL_in 453 (by decide +kernel) rfl, zm_WL_in 454 (by decide +kernel) rfl, TX0, 10, rfl⟩), by decide, zm_tb_ok rfl zk_X0_isSet_t⟩
set_option maxRecDepth 100000 in
theorem zk_X0_isInSet_t : zm_tb 0 cX0_isInSet true (some .boolean) zt_X0_isInSet = true := by decide +kernel
set_option maxRecDepth 100000 in
theorem zk_X0_isInSet : zm_mok zm_ms (RX0, yX0_isInSet, cX0_isInSet, 3, (some .boolean), false, 2, 0, true, [], zt_X0_isInSet) := ⟨rfl, by decide +kernel, ⟨by decide +kernel, by decide +kernel⟩, zm_WL_in 469 rfl rfl, zm_WL_in 45 (by decide +kernel) rfl, by decide +kernel, (fun h => Bool.noConfusion h), (fun _ => ⟨zm_WL_in 467 (by decide +kernel) rfl, zm_WL_in 468 (by decide +kernel) rfl, TX0, 10, rfl⟩), by decide, zm_tb_ok rfl zk_X0_isInSet_t⟩
set_option maxRecDepth 100000 in
theorem zk_X0_firstOn_t : zm_tb 0 cX0_firstOn false (some .int) zt_X0_firstOn = true := by decide +kernel
set_option maxRecDepth 100000 in
theorem zk_X0_firstOn : zm_mok zm_ms (RX0, yX0_firstOn, cX0_firstOn, 8, (some .int), false, 1, 0, false, [12], zt_X0_firstOn) := ⟨rfl, by decide +kernel, ⟨by decide +kernel, by decide +kernel⟩, zm_WL_in 602 rfl rfl, zm_WL_in 45 (by decide +kernel) rfl, by decide +kernel, (fun h => Bool.noConfusion h), (fun _ => ⟨zm_WL_in 600 (by decide +kernel) rfl, zm_WL_in 601 (by decide +kernel) rfl, TX0, 10, rfl⟩), by decide, zm_tb_ok rfl zk_X0_firstOn_t⟩
set_option maxRecDepth 100000 in
theorem zk_X0_hasPlayer_t : zm_tb 0 cX0_hasPlayer true (some .boolean) zt_X0_hasPlayer = true := by decide +kernel
set_option maxRecDepth 100000 in
theorem zk_X0_hasPlayer : zm_mok zm_ms (RX0, yX0_hasPlayer, cX0_hasPlayer, 2, (some .boolean), false, 1, 0, true, [], zt_X0_hasPlayer) := ⟨rfl, by decide +kernel, ⟨by decide +kernel, by decide +kernel⟩, zm_WL_in 631 rfl rfl, zm_WL_in 45 (by decide +kernel) rfl, by decide +kernel, (fun h => Bool.noConfusion h), (fun _ => ⟨zm_WL_in 629 (by decide +kernel) rfl, zm_WL_in 630 (by decide +kernel) rfl, TX0, 10, rfl⟩), by decide, zm_tb_ok rfl zk_X0_hasPlayer_t⟩
set_option maxRecDepth 100000 in
theorem zk_X0_areTwoPlayers_t : zm_tb 0 cX0_areTwoPlayers true (some .boolean) zt_X0_areTwoPlayers = true := by decide +kernel
set_option maxRecDepth 100000 in
theorem zk_X0_areTwoPlayers : zm_mok zm_ms (RX0, yX0_areTwoPlayers, cX0_areTwoPlayers, 3, (some .boolean), false, 2, 0, true, [], zt_X0_areTwoPlayers) := ⟨rfl, by decide +kernel, ⟨by decide +kernel, by decide +kernel⟩, zm_WL_in 671 rfl rfl, zm_WL_in 45 (by decide +kernel) rfl, by decide +kernel, (fun h => Bool.noConfusion h), (fun _ => ⟨zm_WL_in 669 (by decide +kernel) rfl, zm_WL_in 670 (by decide +kernel) rfl, TX0, 10, rfl⟩), by decide, zm_tb_ok rfl zk_X0_areTwoPlayers_t⟩
set_option maxRecDepth 100000 in
theorem zk_X0_addPlayer_t : zm_tb 0 cX0_addPlayer true (some .boolean) zt_X0_addPlayer = true := by decide +kernel
set_option maxRecDepth 100000 in
theorem zk_X0_addPlayer : zm_mok zm_ms (RX0, yX0_addPlayer, cX0_addPlayer, 3, (some .boolean), false, 2, 0, true, [], zt_X0_addPlayer) := ⟨rfl, by decide +kernel, ⟨by decide +kernel, by decide +kernel⟩, zm_WL_in 623 rfl rfl, zm_WL_in 45 (by decide +kernel) rfl, by decide +kernel, (fun h => Bool.noConfusion h), (fun _ => ⟨zm_WL_in 621 (by decide +kernel) rfl, zm_WL_in 622 (by decide +kernel) rfl, TX0, 10, rfl⟩), by decide, zm_tb_ok rfl zk_X0_addPlayer_t⟩
set_option maxRecDepth 100000 in
theorem zk_X0_firstPick_t : zm_tb 0 cX0_firstPick false (some .int) zt_X0_firstPick = true := by decide +kernel
set_option maxRecDepth 100000 in
theorem zk_X0_firstPick : zm_mok zm_ms (RX0, yX0_firstPick, cX0_firstPick, 2, (some .int), false, 1, 0, false, [5], zt_X0_firstPick) := ⟨rfl, by decide +kernel, ⟨by decide +kernel, by decide +kernel⟩, zm_WL_in 675 rfl rfl, zm_WL_in 45 (by decide +kernel) rfl, by decide +kernel, (fun h => Bool.noConfusion h), (fun _ => ⟨zm_WL_in 673 (by decide +kernel) rfl, zm_WL_in 674 (by decide +kernel) rfl, TX0, 10, rfl⟩), by decide, zm_tb_ok rfl zk_X0_firstPick_t⟩
set_option maxRecDepth 100000 in
theorem zk_X0_pickAgainst_t : zm_tb 0 cX0_pickAgainst false (some .int) zt_X0_pickAgainst = true := by decide +kernel
set_option maxRecDepth 100000 in
theorem zk_X0_pickAgainst : zm_mok zm_ms (RX0, yX0_pickAgainst, cX0_pickAgainst, 4, (some .int), false, 2, 0, false, [5, 20, 78, 99], zt_X0_pickAgainst) := ⟨rfl, by decide +kernel, ⟨by decide +kernel, by decide +kernel⟩, zm_WL_in 640 rfl rfl, zm_WL_in 45 (by decide +kernel) rfl, by decide +kernel, (fun h => Bool.noConfusion h), (fun _ => ⟨zm_WL_in 638 (by decide +kernel) rfl, zm_WL_in 639 (by decide +kernel) rfl, TX0, 10, rfl⟩), by decide, zm_tb_ok rfl zk_X0_pickAgainst_t⟩
set_option maxRecDepth 100000 in
theorem zk_X0_wins_t : zm_tb 0 cX0_wins false (some .int) zt_X0_wins = true := by decide +kernel
set_option maxRecDepth 100000 in
theorem zk_X0_wins : zm_mok zm_ms (RX0, yX0_wins, cX0_wins, 5, (some .int), false, 1, 0, false, [5, 31, 54], zt_X0_wins) := ⟨rfl, by decide +kernel, ⟨by decide +kernel, by decide +kernel⟩, zm_WL_in 635 rfl rfl, zm_WL_in 45 (by decide +kernel) rfl, by decide +kernel, (fun h => Bool.noConfusion h), (fun _ => ⟨zm_WL_in 633 (by decide +kernel) rfl, zm_WL_in 634 (by decide +kernel) rfl, TX0, 10, rfl⟩), by decide, zm_tb_ok rfl zk_X0_wins_t⟩
set_option maxRecDepth 100000 in
theorem zk_X0_addRow_t : zm_tb 0 cX0_addRow true (some .boolean) zt_X0_addRow = true := by decide +kernel
set_option maxRecDepth 100000 in
theorem zk_X0_addRow : zm_mok zm_ms (RX0, yX0_addRow, cX0_addRow, 3, (some .boolean), false, 2, 0, true, [], zt_X0_addRow) := ⟨rfl, by decide +kernel, ⟨by decide +kernel, by decide +kernel⟩, zm_WL_in 713 rfl rfl, zm_WL_in 45 (by decide +kernel) rfl, by decide +kernel, (fun h => Bool.noConfusion h), (fun _ => ⟨zm_WL_in 711 (by decide +kernel) rfl, zm_WL_in 712 (by decide +kernel) rfl, TX0, 10, rfl⟩), by decide, zm_tb_ok rfl zk_X0_addRow_t⟩
set_option maxRecDepth 100000 in
theorem zk_X0_followPlan_t : zm_tb 0 cX0_followPlan false none zt_X0_followPlan = true := by decide +kernel
set_option maxRecDepth 100000 in
theorem zk_X0_followPlan : zm_mok zm_ms (RX0, yX0_followPlan, cX0_followPlan, 5, none, false, 1, 0, false, [2, 54], zt_X0_followPlan) := ⟨rfl, by decide +kernel, ⟨by decide +kernel, by decide +kernel⟩, zm_WL_in 721 rfl rfl, zm_WL_in 45 (by decide +kernel) rfl, by decide +kernel, (fun h => Bool.noConfusion h), (fun _ => ⟨zm_WL_in 719 (by decide +kernel) rfl, zm_WL_in 720 (by decide +kernel) rfl, TX0, 10, rfl⟩), by decide, zm_tb_ok rfl zk_X0_followPlan_t⟩
set_option maxRecDepth 100000 in
theorem zk_X1_nextSeed_t : zm_tb 1 cX1_nextSeed false (some .int) zt_X1_nextSeed = true := by decide +kernel
set_option maxRecDepth 100000 in
theorem zk_X1_nextSeed : zm_mok zm_ms (RX1, yX1_nextSeed, cX1_nextSeed, 1, (some .int), true, 1, 0, false, [], zt_X1_nextSeed) := ⟨rfl, by decide +kernel, ⟨by decide +kernel, by decide +kernel⟩, zm_WL_in 542 rfl rfl, zm_WL_in 50 (by decide +kernel) rfl, by decide +kernel, (fun _ => zm_WL_in 541 (by decide +kernel) rfl), (fun h => Bool.noConfusion h), by decide, zm_tb_ok rfl zk_X1_nextSeed_t⟩
set_option maxRecDepth 100000 in
theorem zk_X1_drawn_t : zm_tb 1 cX1_drawn false (some .int) zt_X1_drawn = true := by decide +kernel
set_option maxRecDepth 100000 in
theorem zk_X1_drawn : zm_mok zm_ms (RX1, yX1_drawn, cX1_drawn, 2, (some .int), true, 2, 0, false, [], zt_X1_drawn) := ⟨rfl, by decide +kernel, ⟨by decide +kernel, by decide +kernel⟩, zm_WL_in 546 rfl rfl, zm_WL_in 50 (by decide +kernel) rfl, by decide +kernel, (fun _ => zm_WL_in 545 (by decide +kernel) rfl), (fun h => Bool.noConfusion h), by decide, zm_tb_ok rfl zk_X1_drawn_t⟩
set_option maxRecDepth 100000 in
theorem zk_X1_run_t : zm_tb 1 cX1_run false none zt_X1_run = true := by decide +kernel
set_option maxRecDepth 100000 in
theorem zk_X1_run : zm_mok zm_ms (RX1, yX1_run, cX1_run, 7, none, false, 4, 1, false, [17, 54, 72, 89], zt_X1_run) := ⟨rfl, by decide +kernel, ⟨by decide +kernel, by decide +kernel⟩, zm_WL_in 693 rfl rfl, zm_WL_in 50 (by decide +kernel) rfl, by decide +kernel, (fun h => Bool.noConfusion h), (fun _ => ⟨zm_WL_in 691 (by decide +kernel) rfl, zm_WL_in 692 (by decide +kernel) rfl, TX1, 2, rfl⟩), by decide, zm_tb_ok rfl zk_X1_run_t⟩
set_option maxRecDepth 100000 in
theorem zk_X2_fill_t : zm_tb 2 cX2_fill false none zt_X2_fill = true := by decide +kernel
set_option maxRecDepth 100000 in
theorem zk_X2_fill : zm_mok zm_ms (RX2, yX2_fill, cX2_fill, 4, none, false, 2, 2, false, [15, 37, 53], zt_X2_fill) := ⟨rfl, by decide +kernel, ⟨by decide +kernel, by decide +kernel⟩, zm_WL_in 465 rfl rfl, zm_WL_in 48 (by decide +kernel) rfl, by decide +kernel, (fun h => Bool.noConfusion h), (fun _ => ⟨zm_WL_in 463 (by decide +kernel) rfl, zm_WL_in 464 (by decide +kernel) rfl, TX2, 6, rfl⟩), by decide, zm_tb_ok rfl zk_X2_fill_t⟩
set_option maxRecDepth 100000 in
theorem zk_X2_hasOneInAnother_t : zm_tb 2 cX2_hasOneInAnother true (some .boolean) zt_X2_hasOneInAnother = true := by decide +kernel
set_option maxRecDepth 100000 in
theorem zk_X2_hasOneInAnother : zm_mok zm_ms (RX2, yX2_hasOneInAnother, cX2_hasOneInAnother, 3, (some .boolean), false, 0, 2, true, [2, 12], zt_X2_hasOneInAnother) := ⟨rfl, by decide +kernel, ⟨by decide +kernel, by decide +kernel⟩, zm_WL_in 474 rfl rfl, zm_WL_in 48 (by decide +kernel) rfl, by decide +kernel, (fun h => Bool.noConfusion h), (fun _ => ⟨zm_WL_in 472 (by decide +kernel) rfl, zm_WL_in 473 (by decide +kernel) rfl, TX2, 6, rfl⟩), by decide, zm_tb_ok rfl zk_X2_hasOneInAnother_t⟩
set_option maxRecDepth 100000 in
theorem zk_X2_chancePart_t : zm_tb 2 cX2_chancePart false (some .long) zt_X2_chancePart = true := by decide +kernel
set_option maxRecDepth 100000 in
theorem zk_X2_chancePart : zm_mok zm_ms (RX2, yX2_chancePart, cX2_chancePart, 3, (some .long), false, 2, 2, false, [], zt_X2_chancePart) := ⟨rfl, by decide +kernel, ⟨by decide +kernel, by decide +kernel⟩, zm_WL_in 483 rfl rfl, zm_WL_in 48 (by decide +kernel) rfl, by decide +kernel, (fun h => Bool.noConfusion h), (fun _ => ⟨zm_WL_in 481 (by decide +kernel) rfl, zm_WL_in 482 (by decide +kernel) rfl, TX2, 6, rfl⟩), by decide, zm_tb_ok rfl zk_X2_chancePart_t⟩
set_option maxRecDepth 100000 in
theorem zk_X2_meanPart_t : zm_tb 2 cX2_meanPart false (some .long) zt_X2_meanPart = true := by decide +kernel
set_option maxRecDepth 100000 in
theorem zk_X2_meanPart : zm_mok zm_ms (RX2, yX2_meanPart, cX2_meanPart, 5, (some .long), false, 1, 2, false, [9, 25], zt_X2_meanPart) := ⟨rfl, by decide +kernel, ⟨by decide +kernel, by decide +kernel⟩, zm_WL_in 509 rfl rfl, zm_WL_in 48 (by decide +kernel) rfl, by decide +kernel, (fun h => Bool.noConfusion h), (fun _ => ⟨zm_WL_in 507 (by decide +kernel) rfl, zm_WL_in 508 (by decide +kernel) rfl, TX2, 6, rfl⟩), by decide, zm_tb_ok rfl zk_X2_meanPart_t⟩
set_option maxRecDepth 100000 in
theorem zk_X2_setApart_t : zm_tb 2 cX2_setApart false none zt_X2_setApart = true := by decide +kernel
set_option maxRecDepth 100000 in
theorem zk_X2_setApart : zm_mok zm_ms (RX2, yX2_setApart, cX2_setApart, 3, none, false, 0, 2, false, [2, 14, 50, 69], zt_X2_setApart) := ⟨rfl, by decide +kernel, ⟨by decide +kernel, by decide +kernel⟩, zm_WL_in 488 rfl rfl, zm_WL_in 48 (by decide +kernel) rfl, by decide +kernel, (fun h => Bool.noConfusion h), (fun _ => ⟨zm_WL_in 487 (by decide +kernel) rfl, zm_WL_in 6 (by decide +kernel) rfl, TX2, 6, rfl⟩), by decide, zm_tb_ok rfl zk_X2_setApart_t⟩
set_option maxRecDepth 100000 in
theorem zk_X2_weight_t : zm_tb 2 cX2_weight false (some .long) zt_X2_weight = true := by decide +kernel
set_option maxRecDepth 100000 in
theorem zk_X2_weight : zm_mok zm_ms (RX2, yX2_weight, cX2_weight, 4, (some .long), false, 1, 2, false, [], zt_X2_weight) := ⟨rfl, by decide +kernel, ⟨by decide +kernel, by decide +kernel⟩, zm_WL_in 493 rfl rfl, zm_WL_in 48 (by decide +kernel) rfl, by decide +kernel, (fun h => Bool.noConfusion h), (fun _ => ⟨zm_WL_in 492 (by decide +kernel) rfl, zm_WL_in 7 (by decide +kernel) rfl, TX2, 6, rfl⟩), by decide, zm_tb_ok rfl zk_X2_weight_t⟩
set_option maxRecDepth 100000 in
theorem zk_X2_wholeWeight_t : zm_tb 2 cX2_wholeWeight false (some .long) zt_X2_wholeWeight = true := by decide +kernel
set_option maxRecDepth 100000 in
theorem zk_X2_wholeWeight : zm_mok zm_ms (RX2, yX2_wholeWeight, cX2_wholeWeight, 4, (some .long), false, 0, 2, false, [4], zt_X2_wholeWeight) := ⟨rfl, by decide +kernel, ⟨by decide +kernel, by decide +kernel⟩, zm_WL_in 500 rfl rfl, zm_WL_in 48 (by decide +kernel) rfl, by decide +kernel, (fun h => Bool.noConfusion h), (fun _ => ⟨zm_WL_in 499 (by decide +kernel) rfl, zm_WL_in 8 (by decide +kernel) rfl, TX2, 6, rfl⟩), by decide, zm_tb_ok rfl zk_X2_wholeWeight_t⟩
set_option maxRecDepth 100000 in
theorem zk_X2_minor_t : zm_tb 2 cX2_minor false (some .long) zt_X2_minor = true := by decide +kernel
set_option maxRecDepth 100000 in
theorem zk_X2_minor : zm_mok zm_ms (RX2, yX2_minor, cX2_minor, 8, (some .long), true, 4, 0, false, [27], zt_X2_minor) := ⟨rfl, by decide +kernel, ⟨by decide +kernel, by decide +kernel⟩, zm_WL_in 496 rfl rfl, zm_WL_in 48 (by decide +kernel) rfl, by decide +kernel, (fun _ => zm_WL_in 495 (by decide +kernel) rfl), (fun h => Bool.noConfusion h), by decide, zm_tb_ok rfl zk_X2_minor_t⟩
set_option maxRecDepth 100000 in
theorem zk_X2_rowsWithin_t : zm_tb 2 cX2_rowsWithin false (some .int) zt_X2_rowsWithin = true := by decide +kernel
set_option maxRecDepth 100000 in
theorem zk_X2_rowsWithin : zm_mok zm_ms (RX2, yX2_rowsWithin, cX2_rowsWithin, 5, (some .int), false, 2, 2, false, [24], zt_X2_rowsWithin) := ⟨rfl, by decide +kernel, ⟨by decide +kernel, by decide +kernel⟩, zm_WL_in 517 rfl rfl, zm_WL_in 48 (by decide +kernel) rfl, by decide +kernel, (fun h => Bool.noConfusion h), (fun _ => ⟨zm_WL_in 515 (by decide +kernel) rfl, zm_WL_in 516 (by decide +kernel) rfl, TX2, 6, rfl⟩), by decide, zm_tb_ok rfl zk_X2_rowsWithin_t⟩
set_option maxRecDepth 100000 in
theorem zk_X2_countEndings_t : zm_tb 2 cX2_countEndings false none zt_X2_countEndings = true := by decide +kernel
set_option maxRecDepth 100000 in
theorem zk_X2_countEndings : zm_mok zm_ms (RX2, yX2_countEndings, cX2_countEndings, 4, none, false, 1, 2, false, [9, 41, 62], zt_X2_countEndings) := ⟨rfl, by decide +kernel, ⟨by decide +kernel, by decide +kernel⟩, zm_WL_in 521 rfl rfl, zm_WL_in 48 (by decide +kernel) rfl, by decide +kernel, (fun h => Bool.noConfusion h), (fun _ => ⟨zm_WL_in 520 (by decide +kernel) rfl, zm_WL_in 9 (by decide +kernel) rfl, TX2, 6, rfl⟩), by decide, zm_tb_ok rfl zk_X2_countEndings_t⟩
set_option maxRecDepth 100000 in
theorem zk_X2_endingsAt_t : zm_tb 2 cX2_endingsAt false (some .int) zt_X2_endingsAt = true := by decide +kernel
set_option maxRecDepth 100000 in
theorem zk_X2_endingsAt : zm_mok zm_ms (RX2, yX2_endingsAt, cX2_endingsAt, 8, (some .int), false, 2, 2, false, [10, 29, 59], zt_X2_endingsAt) := ⟨rfl, by decide +kernel, ⟨by decide +kernel, by decide +kernel⟩, zm_WL_in 525 rfl rfl, zm_WL_in 48 (by decide +kernel) rfl, by decide +kernel, (fun h => Bool.noConfusion h), (fun _ => ⟨zm_WL_in 524 (by decide +kernel) rfl, zm_WL_in 10 (by decide +kernel) rfl, TX2, 6, rfl⟩), by decide, zm_tb_ok rfl zk_X2_endingsAt_t⟩
set_option maxRecDepth 100000 in
theorem zk_X3_isPart_t : zm_tb 3 cX3_isPart true (some .boolean) zt_X3_isPart = true := by decide +kernel
set_option maxRecDepth 100000 in
theorem zk_X3_isPart : zm_mok zm_ms (RX3, yX3_isPart, cX3_isPart, 1, (some .boolean), true, 1, 0, true, [], zt_X3_isPart) := ⟨rfl, by decide +kernel, ⟨by decide +kernel, by decide +kernel⟩, zm_WL_in 388 rfl rfl, zm_WL_in 56 (by decide +kernel) rfl, by decide +kernel, (fun _ => zm_WL_in 387 (by decide +kernel) rfl), (fun h => Bool.noConfusion h), by decide, zm_tb_ok rfl zk_X3_isPart_t⟩
set_option maxRecDepth 100000 in
theorem zk_X3_partOf_t : zm_tb 3 cX3_partOf false (some .long) zt_X3_partOf = true := by decide +kernel
set_option maxRecDepth 100000 in
theorem zk_X3_partOf : zm_mok zm_ms (RX3, yX3_partOf, cX3_partOf, 9, (some .long), true, 3, 0, false, [], zt_X3_partOf) := ⟨rfl, by decide +kernel, ⟨by decide +kernel, by decide +kernel⟩, zm_WL_in 403 rfl rfl, zm_WL_in 56 (by decide +kernel) rfl, by decide +kernel, (fun _ => zm_WL_in 402 (by decide +kernel) rfl), (fun h => Bool.noConfusion h), by decide, zm_tb_ok rfl zk_X3_partOf_t⟩
set_option maxRecDepth 100000 in
theorem zk_X3_commonDivisor_t : zm_tb 3 cX3_commonDivisor false (some .long) zt_X3_commonDivisor = true := by decide +kernel
set_option maxRecDepth 100000 in
theorem zk_X3_commonDivisor : zm_mok zm_ms (RX3, yX3_commonDivisor, cX3_commonDivisor, 11, (some .long), true, 2, 0, false, [9], zt_X3_commonDivisor) := ⟨rfl, by decide +kernel, ⟨by decide +kernel, by decide +kernel⟩, zm_WL_in 406 rfl rfl, zm_WL_in 56 (by decide +kernel) rfl, by decide +kernel, (fun _ => zm_WL_in 405 (by decide +kernel) rfl), (fun h => Bool.noConfusion h), by decide, zm_tb_ok rfl zk_X3_commonDivisor_t⟩
set_option maxRecDepth 100000 in
theorem zk_X4_share_t : zm_tb 4 cX4_share false (some .int) zt_X4_share = true := by decide +kernel
set_option maxRecDepth 100000 in
theorem zk_X4_share : zm_mok zm_ms (RX4, yX4_share, cX4_share, 3, (some .int), true, 3, 0, false, [], zt_X4_share) := ⟨rfl, by decide +kernel, ⟨by decide +kernel, by decide +kernel⟩, zm_WL_in 400 rfl rfl, zm_WL_in 55 (by decide +kernel) rfl, by decide +kernel, (fun _ => zm_WL_in 399 (by decide +kernel) rfl), (fun h => Bool.noConfusion h), by decide, zm_tb_ok rfl zk_X4_share_t⟩
set_option maxRecDepth 100000 in
theorem zk_X4_chancePart_t : zm_tb 4 cX4_chancePart false (some .long) zt_X4_chancePart = true := by decide +kernel
set_option maxRecDepth 100000 in
theorem zk_X4_chancePart : zm_mok zm_ms (RX4, yX4_chancePart, cX4_chancePart, 5, (some .long), true, 4, 0, false, [], zt_X4_chancePart) := ⟨rfl, by decide +kernel, ⟨by decide +kernel, by decide +kernel⟩, zm_WL_in 392 rfl rfl, zm_WL_in 55 (by decide +kernel) rfl, by decide +kernel, (fun _ => zm_WL_in 391 (by decide +kernel) rfl), (fun h => Bool.noConfusion h), by decide, zm_tb_ok rfl zk_X4_chancePart_t⟩
set_option maxRecDepth 100000 in
theorem zk_X4_beats_t : zm_tb 4 cX4_beats true (some .boolean) zt_X4_beats = true := by decide +kernel
set_option maxRecDepth 100000 in
theorem zk_X4_beats : zm_mok zm_ms (RX4, yX4_beats, cX4_beats, 3, (some .boolean), true, 3, 0, true, [], zt_X4_beats) := ⟨rfl, by decide +kernel, ⟨by decide +kernel, by decide +kernel⟩, zm_WL_in 432 rfl rfl, zm_WL_in 55 (by decide +kernel) rfl, by decide +kernel, (fun _ => zm_WL_in 431 (by decide +kernel) rfl), (fun h => Bool.noConfusion h), by decide, zm_tb_ok rfl zk_X4_beats_t⟩
set_option maxRecDepth 100000 in
theorem zk_X4_bestAnswer_t : zm_tb 4 cX4_bestAnswer false (some .int) zt_X4_bestAnswer = true := by decide +kernel
set_option maxRecDepth 100000 in
theorem zk_X4_bestAnswer : zm_mok zm_ms (RX4, yX4_bestAnswer, cX4_bestAnswer, 10, (some .int), true, 2, 0, false, [27, 99], zt_X4_bestAnswer) := ⟨rfl, by decide +kernel, ⟨by decide +kernel, by decide +kernel⟩, zm_WL_in 357 rfl rfl, zm_WL_in 55 (by decide +kernel) rfl, by decide +kernel, (fun _ => zm_WL_in 356 (by decide +kernel) rfl), (fun h => Bool.noConfusion h), by decide, zm_tb_ok rfl zk_X4_bestAnswer_t⟩
set_option maxRecDepth 100000 in
theorem zk_X5_wordAt_t : zm_tb 5 cX5_wordAt false (some .int) zt_X5_wordAt = true := by decide +kernel
set_option maxRecDepth 100000 in
theorem zk_X5_wordAt : zm_mok zm_ms (RX5, yX5_wordAt, cX5_wordAt, 2, (some .int), false, 1, 3, false, [], zt_X5_wordAt) := ⟨rfl, by decide +kernel, ⟨by decide +kernel, by decide +kernel⟩, zm_WL_in 443 rfl rfl, zm_WL_in 49 (by decide +kernel) rfl, by decide +kernel, (fun h => Bool.noConfusion h), (fun _ => ⟨zm_WL_in 441 (by decide +kernel) rfl, zm_WL_in 442 (by decide +kernel) rfl, TX5, 2, rfl⟩), by decide, zm_tb_ok rfl zk_X5_wordAt_t⟩
set_option maxRecDepth 100000 in
theorem zk_X5_find_t : zm_tb 5 cX5_find false (some .int) zt_X5_find = true := by decide +kernel
set_option maxRecDepth 100000 in
theorem zk_X5_find : zm_mok zm_ms (RX5, yX5_find, cX5_find, 5, (some .int), false, 1, 3, false, [12, 27, 44, 51, 81], zt_X5_find) := ⟨rfl, by decide +kernel, ⟨by decide +kernel, by decide +kernel⟩, zm_WL_in 427 rfl rfl, zm_WL_in 49 (by decide +kernel) rfl, by decide +kernel, (fun h => Bool.noConfusion h), (fun _ => ⟨zm_WL_in 425 (by decide +kernel) rfl, zm_WL_in 426 (by decide +kernel) rfl, TX5, 2, rfl⟩), by decide, zm_tb_ok rfl zk_X5_find_t⟩
set_option maxRecDepth 100000 in
theorem zk_X5_closes_t : zm_tb 5 cX5_closes true (some .boolean) zt_X5_closes = true := by decide +kernel
set_option maxRecDepth 100000 in
theorem zk_X5_closes : zm_mok zm_ms (RX5, yX5_closes, cX5_closes, 5, (some .boolean), true, 4, 0, true, [34, 64], zt_X5_closes) := ⟨rfl, by decide +kernel, ⟨by decide +kernel, by decide +kernel⟩, zm_WL_in 435 rfl rfl, zm_WL_in 49 (by decide +kernel) rfl, by decide +kernel, (fun _ => zm_WL_in 434 (by decide +kernel) rfl), (fun h => Bool.noConfusion h), by decide, zm_tb_ok rfl zk_X5_closes_t⟩
set_option maxRecDepth 100000 in
theorem zk_X5_isBeaten_t : zm_tb 5 cX5_isBeaten true (some .boolean) zt_X5_isBeaten = true := by decide +kernel
set_option maxRecDepth 100000 in
theorem zk_X5_isBeaten : zm_mok zm_ms (RX5, yX5_isBeaten, cX5_isBeaten, 3, (some .boolean), false, 2, 3, true, [], zt_X5_isBeaten) := ⟨rfl, by decide +kernel, ⟨by decide +kernel, by decide +kernel⟩, zm_WL_in 439 rfl rfl, zm_WL_in 49 (by decide +kernel) rfl, by decide +kernel, (fun h => Bool.noConfusion h), (fun _ => ⟨zm_WL_in 438 (by decide +kernel) rfl, zm_WL_in 4 (by decide +kernel) rfl, TX5, 2, rfl⟩), by decide, zm_tb_ok rfl zk_X5_isBeaten_t⟩
set_option maxRecDepth 100000 in
theorem zk_X6_copyFrom_t : zm_tb 6 cX6_copyFrom false none zt_X6_copyFrom = true := by decide +kernel
set_option maxRecDepth 100000 in
theorem zk_X6_copyFrom : zm_mok zm_ms (RX6, yX6_copyFrom, cX6_copyFrom, 2, none, false, 1, 4, false, [], zt_X6_copyFrom) := ⟨rfl, by decide +kernel, ⟨by decide +kernel, by decide +kernel⟩, zm_WL_in 612 rfl rfl, zm_WL_in 46 (by decide +kernel) rfl, by decide +kernel, (fun h => Bool.noConfusion h), (fun _ => ⟨zm_WL_in 610 (by decide +kernel) rfl, zm_WL_in 611 (by decide +kernel) rfl, TX6, 2, rfl⟩), by decide, zm_tb_ok rfl zk_X6_copyFrom_t⟩
set_option maxRecDepth 100000 in
theorem zk_X6_hasPlace_t : zm_tb 6 cX6_hasPlace true (some .boolean) zt_X6_hasPlace = true := by decide +kernel
set_option maxRecDepth 100000 in
theorem zk_X6_hasPlace : zm_mok zm_ms (RX6, yX6_hasPlace, cX6_hasPlace, 2, (some .boolean), false, 1, 4, true, [], zt_X6_hasPlace) := ⟨rfl, by decide +kernel, ⟨by decide +kernel, by decide +kernel⟩, zm_WL_in 300 rfl rfl, zm_WL_in 46 (by decide +kernel) rfl, by decide +kernel, (fun h => Bool.noConfusion h), (fun _ => ⟨zm_WL_in 298 (by decide +kernel) rfl, zm_WL_in 299 (by decide +kernel) rfl, TX6, 2, rfl⟩), by decide, zm_tb_ok rfl zk_X6_hasPlace_t⟩
set_option maxRecDepth 100000 in
theorem zk_X6_letterAt_t : zm_tb 6 cX6_letterAt false (some .int) zt_X6_letterAt = true := by decide +kernel
set_option maxRecDepth 100000 in
theorem zk_X6_letterAt : zm_mok zm_ms (RX6, yX6_letterAt, cX6_letterAt, 2, (some .int), false, 1, 4, false, [5], zt_X6_letterAt) := ⟨rfl, by decide +kernel, ⟨by decide +kernel, by decide +kernel⟩, zm_WL_in 296 rfl rfl, zm_WL_in 46 (by decide +kernel) rfl, by decide +kernel, (fun h => Bool.noConfusion h), (fun _ => ⟨zm_WL_in 294 (by decide +kernel) rfl, zm_WL_in 295 (by decide +kernel) rfl, TX6, 2, rfl⟩), by decide, zm_tb_ok rfl zk_X6_letterAt_t⟩
set_option maxRecDepth 100000 in
theorem zk_X6_append_t : zm_tb 6 cX6_append true (some .boolean) zt_X6_append = true := by decide +kernel
set_option maxRecDepth 100000 in
theorem zk_X6_append : zm_mok zm_ms (RX6, yX6_append, cX6_append, 2, (some .boolean), false, 1, 4, true, [], zt_X6_append) := ⟨rfl, by decide +kernel, ⟨by decide +kernel, by decide +kernel⟩, zm_WL_in 535 rfl rfl, zm_WL_in 46 (by decide +kernel) rfl, by decide +kernel, (fun h => Bool.noConfusion h), (fun _ => ⟨zm_WL_in 533 (by decide +kernel) rfl, zm_WL_in 534 (by decide +kernel) rfl, TX6, 2, rfl⟩), by decide, zm_tb_ok rfl zk_X6_append_t⟩
set_option maxRecDepth 100000 in
theorem zk_X6_dropLast_t : zm_tb 6 cX6_dropLast false none zt_X6_dropLast = true := by decide +kernel
set_option maxRecDepth 100000 in
theorem zk_X6_dropLast : zm_mok zm_ms (RX6, yX6_dropLast, cX6_dropLast, 2, none, false, 1, 4, false, [], zt_X6_dropLast) := ⟨rfl, by decide +kernel, ⟨by decide +kernel, by decide +kernel⟩, zm_WL_in 725 rfl rfl, zm_WL_in 46 (by decide +kernel) rfl, by decide +kernel, (fun h => Bool.noConfusion h), (fun _ => ⟨zm_WL_in 723 (by decide +kernel) rfl, zm_WL_in 724 (by decide +kernel) rfl, TX6, 2, rfl⟩), by decide, zm_tb_ok rfl zk_X6_dropLast_t⟩
set_option maxRecDepth 100000 in
theorem zk_X6_putOneOn_t : zm_tb 6 cX6_putOneOn false none zt_X6_putOneOn = true := by decide +kernel
set_option maxRecDepth 100000 in
theorem zk_X6_putOneOn : zm_mok zm_ms (RX6, yX6_putOneOn, cX6_putOneOn, 3, none, false, 1, 4, false, [2, 31], zt_X6_putOneOn) := ⟨rfl, by decide +kernel, ⟨by decide +kernel, by decide +kernel⟩, zm_WL_in 732 rfl rfl, zm_WL_in 46 (by decide +kernel) rfl, by decide +kernel, (fun h => Bool.noConfusion h), (fun _ => ⟨zm_WL_in 730 (by decide +kernel) rfl, zm_WL_in 731 (by decide +kernel) rfl, TX6, 2, rfl⟩), by decide, zm_tb_ok rfl zk_X6_putOneOn_t⟩
set_option maxRecDepth 100000 in
theorem zk_X6_endBits_t : zm_tb 6 cX6_endBits false (some .long) zt_X6_endBits = true := by decide +kernel
set_option maxRecDepth 100000 in
theorem zk_X6_endBits : zm_mok zm_ms (RX6, yX6_endBits, cX6_endBits, 6, (some .long), false, 1, 4, false, [8], zt_X6_endBits) := ⟨rfl, by decide +kernel, ⟨by decide +kernel, by decide +kernel⟩, zm_WL_in 563 rfl rfl, zm_WL_in 46 (by decide +kernel) rfl, by decide +kernel, (fun h => Bool.noConfusion h), (fun _ => ⟨zm_WL_in 561 (by decide +kernel) rfl, zm_WL_in 562 (by decide +kernel) rfl, TX6, 2, rfl⟩), by decide, zm_tb_ok rfl zk_X6_endBits_t⟩
set_option maxRecDepth 100000 in
theorem zk_X6_firstEnd_t : zm_tb 6 cX6_firstEnd false (some .int) zt_X6_firstEnd = true := by decide +kernel
set_option maxRecDepth 100000 in
theorem zk_X6_firstEnd : zm_mok zm_ms (RX6, yX6_firstEnd, cX6_firstEnd, 4, (some .int), false, 1, 4, false, [4], zt_X6_firstEnd) := ⟨rfl, by decide +kernel, ⟨by decide +kernel, by decide +kernel⟩, zm_WL_in 581 rfl rfl, zm_WL_in 46 (by decide +kernel) rfl, by decide +kernel, (fun h => Bool.noConfusion h), (fun _ => ⟨zm_WL_in 579 (by decide +kernel) rfl, zm_WL_in 580 (by decide +kernel) rfl, TX6, 2, rfl⟩), by decide, zm_tb_ok rfl zk_X6_firstEnd_t⟩
set_option maxRecDepth 100000 in
theorem zk_X6_matched_t : zm_tb 6 cX6_matched false (some .int) zt_X6_matched = true := by decide +kernel
set_option maxRecDepth 100000 in
theorem zk_X6_matched : zm_mok zm_ms (RX6, yX6_matched, cX6_matched, 4, (some .int), false, 1, 4, false, [9, 38], zt_X6_matched) := ⟨rfl, by decide +kernel, ⟨by decide +kernel, by decide +kernel⟩, zm_WL_in 591 rfl rfl, zm_WL_in 46 (by decide +kernel) rfl, by decide +kernel, (fun h => Bool.noConfusion h), (fun _ => ⟨zm_WL_in 589 (by decide +kernel) rfl, zm_WL_in 590 (by decide +kernel) rfl, TX6, 2, rfl⟩), by decide, zm_tb_ok rfl zk_X6_matched_t⟩
set_option maxRecDepth 100000 in
theorem zk_X7_append_t : zm_tb 7 cX7_append true (some .boolean) zt_X7_append = true := by decide +kernel
set_option maxRecDepth 100000 in
theorem zk_X7_append : zm_mok zm_ms (RX7, yX7_append, cX7_append, 2, (some .boolean), false, 1, 5, true, [], zt_X7_append) := ⟨rfl, by decide +kernel, ⟨by decide +kernel, by decide +kernel⟩, zm_WL_in 308 rfl rfl, zm_WL_in 47 (by decide +kernel) rfl, by decide +kernel, (fun h => Bool.noConfusion h), (fun _ => ⟨zm_WL_in 306 (by decide +kernel) rfl, zm_WL_in 307 (by decide +kernel) rfl, TX7, 6, rfl⟩), by decide, zm_tb_ok rfl zk_X7_append_t⟩
set_option maxRecDepth 100000 in
theorem zk_X7_read_t : zm_tb 7 cX7_read false (some .int) zt_X7_read = true := by decide +kernel
set_option maxRecDepth 100000 in
theorem zk_X7_read : zm_mok zm_ms (RX7, yX7_read, cX7_read, 3, (some .int), false, 1, 5, false, [17, 57], zt_X7_read) := ⟨rfl, by decide +kernel, ⟨by decide +kernel, by decide +kernel⟩, zm_WL_in 316 rfl rfl, zm_WL_in 47 (by decide +kernel) rfl, by decide +kernel, (fun h => Bool.noConfusion h), (fun _ => ⟨zm_WL_in 314 (by decide +kernel) rfl, zm_WL_in 315 (by decide +kernel) rfl, TX7, 6, rfl⟩), by decide, zm_tb_ok rfl zk_X7_read_t⟩
set_option maxRecDepth 100000 in
theorem zk_X7_goesOn_t : zm_tb 7 cX7_goesOn true (some .boolean) zt_X7_goesOn = true := by decide +kernel
set_option maxRecDepth 100000 in
theorem zk_X7_goesOn : zm_mok zm_ms (RX7, yX7_goesOn, cX7_goesOn, 4, (some .boolean), false, 2, 5, true, [], zt_X7_goesOn) := ⟨rfl, by decide +kernel, ⟨by decide +kernel, by decide +kernel⟩, zm_WL_in 320 rfl rfl, zm_WL_in 47 (by decide +kernel) rfl, by decide +kernel, (fun h => Bool.noConfusion h), (fun _ => ⟨zm_WL_in 319 (by decide +kernel) rfl, zm_WL_in 0 (by decide +kernel) rfl, TX7, 6, rfl⟩), by decide, zm_tb_ok rfl zk_X7_goesOn_t⟩
set_option maxRecDepth 100000 in
theorem zk_X7_addLetters_t : zm_tb 7 cX7_addLetters true (some .boolean) zt_X7_addLetters = true := by decide +kernel
set_option maxRecDepth 100000 in
theorem zk_X7_addLetters : zm_mok zm_ms (RX7, yX7_addLetters, cX7_addLetters, 4, (some .boolean), false, 2, 5, true, [17], zt_X7_addLetters) := ⟨rfl, by decide +kernel, ⟨by decide +kernel, by decide +kernel⟩, zm_WL_in 328 rfl rfl, zm_WL_in 47 (by decide +kernel) rfl, by decide +kernel, (fun h => Bool.noConfusion h), (fun _ => ⟨zm_WL_in 327 (by decide +kernel) rfl, zm_WL_in 2 (by decide +kernel) rfl, TX7, 6, rfl⟩), by decide, zm_tb_ok rfl zk_X7_addLetters_t⟩
set_option maxRecDepth 100000 in
theorem zk_X7_endClause_t : zm_tb 7 cX7_endClause true (some .boolean) zt_X7_endClause = true := by decide +kernel
set_option maxRecDepth 100000 in
theorem zk_X7_endClause : zm_mok zm_ms (RX7, yX7_endClause, cX7_endClause, 1, (some .boolean), false, 0, 5, true, [], zt_X7_endClause) := ⟨rfl, by decide +kernel, ⟨by decide +kernel, by decide +kernel⟩, zm_WL_in 324 rfl rfl, zm_WL_in 47 (by decide +kernel) rfl, by decide +kernel, (fun h => Bool.noConfusion h), (fun _ => ⟨zm_WL_in 323 (by decide +kernel) rfl, zm_WL_in 1 (by decide +kernel) rfl, TX7, 6, rfl⟩), by decide, zm_tb_ok rfl zk_X7_endClause_t⟩
set_option maxRecDepth 100000 in
theorem zk_X8_tens_t : zm_tb 8 cX8_tens false (some .int) zt_X8_tens = true := by decide +kernel
set_option maxRecDepth 100000 in
theorem zk_X8_tens : zm_mok zm_ms (RX8, yX8_tens, cX8_tens, 1, (some .int), true, 1, 0, false, [], zt_X8_tens) := ⟨rfl, by decide +kernel, ⟨by decide +kernel, by decide +kernel⟩, zm_WL_in 284 rfl rfl, zm_WL_in 53 (by decide +kernel) rfl, by decide +kernel, (fun _ => zm_WL_in 283 (by decide +kernel) rfl), (fun h => Bool.noConfusion h), by decide, zm_tb_ok rfl zk_X8_tens_t⟩
set_option maxRecDepth 100000 in
theorem zk_X8_length_t : zm_tb 8 cX8_length false (some .int) zt_X8_length = true := by decide +kernel
set_option maxRecDepth 100000 in
theorem zk_X8_length : zm_mok zm_ms (RX8, yX8_length, cX8_length, 1, (some .int), true, 1, 0, false, [], zt_X8_length) := ⟨rfl, by decide +kernel, ⟨by decide +kernel, by decide +kernel⟩, zm_WL_in 289 rfl rfl, zm_WL_in 53 (by decide +kernel) rfl, by decide +kernel, (fun _ => zm_WL_in 288 (by decide +kernel) rfl), (fun h => Bool.noConfusion h), by decide, zm_tb_ok rfl zk_X8_length_t⟩
set_option maxRecDepth 100000 in
theorem zk_X8_isWord_t : zm_tb 8 cX8_isWord true (some .boolean) zt_X8_isWord = true := by decide +kernel
set_option maxRecDepth 100000 in
theorem zk_X8_isWord : zm_mok zm_ms (RX8, yX8_isWord, cX8_isWord, 4, (some .boolean), true, 2, 0, true, [20], zt_X8_isWord) := ⟨rfl, by decide +kernel, ⟨by decide +kernel, by decide +kernel⟩, zm_WL_in 281 rfl rfl, zm_WL_in 53 (by decide +kernel) rfl, by decide +kernel, (fun _ => zm_WL_in 280 (by decide +kernel) rfl), (fun h => Bool.noConfusion h), by decide, zm_tb_ok rfl zk_X8_isWord_t⟩
set_option maxRecDepth 100000 in
theorem zk_X8_letterAt_t : zm_tb 8 cX8_letterAt false (some .int) zt_X8_letterAt = true := by decide +kernel
set_option maxRecDepth 100000 in
theorem zk_X8_letterAt : zm_mok zm_ms (RX8, yX8_letterAt, cX8_letterAt, 2, (some .int), true, 2, 0, false, [], zt_X8_letterAt) := ⟨rfl, by decide +kernel, ⟨by decide +kernel, by decide +kernel⟩, zm_WL_in 646 rfl rfl, zm_WL_in 53 (by decide +kernel) rfl, by decide +kernel, (fun _ => zm_WL_in 645 (by decide +kernel) rfl), (fun h => Bool.noConfusion h), by decide, zm_tb_ok rfl zk_X8_letterAt_t⟩
set_option maxRecDepth 100000 in
theorem zk_X8_firstLetters_t : zm_tb 8 cX8_firstLetters false (some .int) zt_X8_firstLetters = true := by decide +kernel
set_option maxRecDepth 100000 in
theorem zk_X8_firstLetters : zm_mok zm_ms (RX8, yX8_firstLetters, cX8_firstLetters, 2, (some .int), true, 2, 0, false, [], zt_X8_firstLetters) := ⟨rfl, by decide +kernel, ⟨by decide +kernel, by decide +kernel⟩, zm_WL_in 292 rfl rfl, zm_WL_in 53 (by decide +kernel) rfl, by decide +kernel, (fun _ => zm_WL_in 291 (by decide +kernel) rfl), (fun h => Bool.noConfusion h), by decide, zm_tb_ok rfl zk_X8_firstLetters_t⟩
set_option maxRecDepth 100000 in
theorem zk_X8_lastLetters_t : zm_tb 8 cX8_lastLetters false (some .int) zt_X8_lastLetters = true := by decide +kernel
set_option maxRecDepth 100000 in
theorem zk_X8_lastLetters : zm_mok zm_ms (RX8, yX8_lastLetters, cX8_lastLetters, 2, (some .int), true, 2, 0, false, [], zt_X8_lastLetters) := ⟨rfl, by decide +kernel, ⟨by decide +kernel, by decide +kernel⟩, zm_WL_in 573 rfl rfl, zm_WL_in 53 (by decide +kernel) rfl, by decide +kernel, (fun _ => zm_WL_in 572 (by decide +kernel) rfl), (fun h => Bool.noConfusion h), by decide, zm_tb_ok rfl zk_X8_lastLetters_t⟩
set_option maxRecDepth 100000 in
theorem zk_X8_grown_t : zm_tb 8 cX8_grown false (some .int) zt_X8_grown = true := by decide +kernel
set_option maxRecDepth 100000 in
theorem zk_X8_grown : zm_mok zm_ms (RX8, yX8_grown, cX8_grown, 2, (some .int), true, 2, 0, false, [], zt_X8_grown) := ⟨rfl, by decide +kernel, ⟨by decide +kernel, by decide +kernel⟩, zm_WL_in 567 rfl rfl, zm_WL_in 53 (by decide +kernel) rfl, by decide +kernel, (fun _ => zm_WL_in 566 (by decide +kernel) rfl), (fun h => Bool.noConfusion h), by decide, zm_tb_ok rfl zk_X8_grown_t⟩
set_option maxRecDepth 100000 in
theorem zk_X8_endsWith_t : zm_tb 8 cX8_endsWith true (some .boolean) zt_X8_endsWith = true := by decide +kernel
set_option maxRecDepth 100000 in
theorem zk_X8_endsWith : zm_mok zm_ms (RX8, yX8_endsWith, cX8_endsWith, 2, (some .boolean), true, 2, 0, true, [], zt_X8_endsWith) := ⟨rfl, by decide +kernel, ⟨by decide +kernel, by decide +kernel⟩, zm_WL_in 570 rfl rfl, zm_WL_in 53 (by decide +kernel) rfl, by decide +kernel, (fun _ => zm_WL_in 569 (by decide +kernel) rfl), (fun h => Bool.noConfusion h), by decide, zm_tb_ok rfl zk_X8_endsWith_t⟩
set_option maxRecDepth 100000 in
theorem zk_X8_overlapBits_t : zm_tb 8 cX8_overlapBits false (some .int) zt_X8_overlapBits = true := by decide +kernel
set_option maxRecDepth 100000 in
theorem zk_X8_overlapBits : zm_mok zm_ms (RX8, yX8_overlapBits, cX8_overlapBits, 6, (some .int), true, 2, 0, false, [20], zt_X8_overlapBits) := ⟨rfl, by decide +kernel, ⟨by decide +kernel, by decide +kernel⟩, zm_WL_in 351 rfl rfl, zm_WL_in 53 (by decide +kernel) rfl, by decide +kernel, (fun _ => zm_WL_in 350 (by decide +kernel) rfl), (fun h => Bool.noConfusion h), by decide, zm_tb_ok rfl zk_X8_overlapBits_t⟩
set_option maxRecDepth 100000 in
theorem zk_X8_numberOn_t : zm_tb 8 cX8_numberOn false (some .int) zt_X8_numberOn = true := by decide +kernel
set_option maxRecDepth 100000 in
theorem zk_X8_numberOn : zm_mok zm_ms (RX8, yX8_numberOn, cX8_numberOn, 7, (some .int), true, 3, 0, false, [15], zt_X8_numberOn) := ⟨rfl, by decide +kernel, ⟨by decide +kernel, by decide +kernel⟩, zm_WL_in 348 rfl rfl, zm_WL_in 53 (by decide +kernel) rfl, by decide +kernel, (fun _ => zm_WL_in 347 (by decide +kernel) rfl), (fun h => Bool.noConfusion h), by decide, zm_tb_ok rfl zk_X8_numberOn_t⟩
set_option maxRecDepth 100000 in
theorem zk_X8_standsIn_t : zm_tb 8 cX8_standsIn true (some .boolean) zt_X8_standsIn = true := by decide +kernel
set_option maxRecDepth 100000 in
theorem zk_X8_standsIn : zm_mok zm_ms (RX8, yX8_standsIn, cX8_standsIn, 5, (some .boolean), true, 2, 0, true, [21], zt_X8_standsIn) := ⟨rfl, by decide +kernel, ⟨by decide +kernel, by decide +kernel⟩, zm_WL_in 381 rfl rfl, zm_WL_in 53 (by decide +kernel) rfl, by decide +kernel, (fun _ => zm_WL_in 380 (by decide +kernel) rfl), (fun h => Bool.noConfusion h), by decide, zm_tb_ok rfl zk_X8_standsIn_t⟩
set_option maxRecDepth 100000 in
theorem zk_X8_clash_t : zm_tb 8 cX8_clash true (some .boolean) zt_X8_clash = true := by decide +kernel
set_option maxRecDepth 100000 in
theorem zk_X8_clash : zm_mok zm_ms (RX8, yX8_clash, cX8_clash, 2, (some .boolean), true, 2, 0, true, [], zt_X8_clash) := ⟨rfl, by decide +kernel, ⟨by decide +kernel, by decide +kernel⟩, zm_WL_in 395 rfl rfl, zm_WL_in 53 (by decide +kernel) rfl, by decide +kernel, (fun _ => zm_WL_in 394 (by decide +kernel) rfl), (fun h => Bool.noConfusion h), by decide, zm_tb_ok rfl zk_X8_clash_t⟩
set_option maxRecDepth 100000 in
theorem zk_X8_oneOn_t : zm_tb 8 cX8_oneOn false (some .int) zt_X8_oneOn = true := by decide +kernel
set_option maxRecDepth 100000 in
theorem zk_X8_oneOn : zm_mok zm_ms (RX8, yX8_oneOn, cX8_oneOn, 2, (some .int), true, 2, 0, false, [], zt_X8_oneOn) := ⟨rfl, by decide +kernel, ⟨by decide +kernel, by decide +kernel⟩, zm_WL_in 652 rfl rfl, zm_WL_in 53 (by decide +kernel) rfl, by decide +kernel, (fun _ => zm_WL_in 651 (by decide +kernel) rfl), (fun h => Bool.noConfusion h), by decide, zm_tb_ok rfl zk_X8_oneOn_t⟩
set_option maxRecDepth 100000 in
theorem zk_X8_turned_t : zm_tb 8 cX8_turned false (some .int) zt_X8_turned = true := by decide +kernel
set_option maxRecDepth 100000 in
theorem zk_X8_turned : zm_mok zm_ms (RX8, yX8_turned, cX8_turned, 3, (some .int), true, 1, 0, false, [9], zt_X8_turned) := ⟨rfl, by decide +kernel, ⟨by decide +kernel, by decide +kernel⟩, zm_WL_in 643 rfl rfl, zm_WL_in 53 (by decide +kernel) rfl, by decide +kernel, (fun _ => zm_WL_in 642 (by decide +kernel) rfl), (fun h => Bool.noConfusion h), by decide, zm_tb_ok rfl zk_X8_turned_t⟩
set_option maxRecDepth 100000 in
theorem zk_X8_shifted_t : zm_tb 8 cX8_shifted false (some .int) zt_X8_shifted = true := by decide +kernel
set_option maxRecDepth 100000 in
theorem zk_X8_shifted : zm_mok zm_ms (RX8, yX8_shifted, cX8_shifted, 5, (some .int), true, 2, 0, false, [10], zt_X8_shifted) := ⟨rfl, by decide +kernel, ⟨by decide +kernel, by decide +kernel⟩, zm_WL_in 658 rfl rfl, zm_WL_in 53 (by decide +kernel) rfl, by decide +kernel, (fun _ => zm_WL_in 657 (by decide +kernel) rfl), (fun h => Bool.noConfusion h), by decide, zm_tb_ok rfl zk_X8_shifted_t⟩
set_option maxRecDepth 100000 in
theorem zk_X8_doubled_t : zm_tb 8 cX8_doubled false (some .int) zt_X8_doubled = true := by decide +kernel
set_option maxRecDepth 100000 in
theorem zk_X8_doubled : zm_mok zm_ms (RX8, yX8_doubled, cX8_doubled, 1, (some .int), true, 1, 0, false, [], zt_X8_doubled) := ⟨rfl, by decide +kernel, ⟨by decide +kernel, by decide +kernel⟩, zm_WL_in 662 rfl rfl, zm_WL_in 53 (by decide +kernel) rfl, by decide +kernel, (fun _ => zm_WL_in 661 (by decide +kernel) rfl), (fun h => Bool.noConfusion h), by decide, zm_tb_ok rfl zk_X8_doubled_t⟩
set_option maxRecDepth 100000 in
theorem zk_X8_answering_t : zm_tb 8 cX8_answering false (some .int) zt_X8_answering = true := by decide +kernel
set_option maxRecDepth 100000 in
theorem zk_X8_answering : zm_mok zm_ms (RX8, yX8_answering, cX8_answering, 3, (some .int), true, 2, 0, false, [], zt_X8_answering) := ⟨rfl, by decide +kernel, ⟨by decide +kernel, by decide +kernel⟩, zm_WL_in 649 rfl rfl, zm_WL_in 53 (by decide +kernel) rfl, by decide +kernel, (fun _ => zm_WL_in 648 (by decide +kernel) rfl), (fun h => Bool.noConfusion h), by decide, zm_tb_ok rfl zk_X8_answering_t⟩
set_option maxRecDepth 100000 in
theorem zk_X8_ledBy_t : zm_tb 8 cX8_ledBy false (some .int) zt_X8_ledBy = true := by decide +kernel
set_option maxRecDepth 100000 in
theorem zk_X8_ledBy : zm_mok zm_ms (RX8, yX8_ledBy, cX8_ledBy, 2, (some .int), true, 2, 0, false, [], zt_X8_ledBy) := ⟨rfl, by decide +kernel, ⟨by decide +kernel, by decide +kernel⟩, zm_WL_in 655 rfl rfl, zm_WL_in 53 (by decide +kernel) rfl, by decide +kernel, (fun _ => zm_WL_in 654 (by decide +kernel) rfl), (fun h => Bool.noConfusion h), by decide, zm_tb_ok rfl zk_X8_ledBy_t⟩
set_option maxRecDepth 100000 in
theorem zk_X8_least_t : zm_tb 8 cX8_least false (some .int) zt_X8_least = true := by decide +kernel
set_option maxRecDepth 100000 in
theorem zk_X8_least : zm_mok zm_ms (RX8, yX8_least, cX8_least, 1, (some .int), true, 1, 0, false, [], zt_X8_least) := ⟨rfl, by decide +kernel, ⟨by decide +kernel, by decide +kernel⟩, zm_WL_in 362 rfl rfl, zm_WL_in 53 (by decide +kernel) rfl, by decide +kernel, (fun _ => zm_WL_in 361 (by decide +kernel) rfl), (fun h => Bool.noConfusion h), by decide, zm_tb_ok rfl zk_X8_least_t⟩
set_option maxRecDepth 100000 in
theorem zk_X8_following_t : zm_tb 8 cX8_following false (some .int) zt_X8_following = true := by decide +kernel
set_option maxRecDepth 100000 in
theorem zk_X8_following : zm_mok zm_ms (RX8, yX8_following, cX8_following, 6, (some .int), true, 2, 0, false, [10], zt_X8_following) := ⟨rfl, by decide +kernel, ⟨by decide +kernel, by decide +kernel⟩, zm_WL_in 365 rfl rfl, zm_WL_in 53 (by decide +kernel) rfl, by decide +kernel, (fun _ => zm_WL_in 364 (by decide +kernel) rfl), (fun h => Bool.noConfusion h), by decide, zm_tb_ok rfl zk_X8_following_t⟩
set_option maxRecDepth 100000 in
theorem zk_X9_sides_t : zm_tb 9 cX9_sides false (some .int) zt_X9_sides = true := by decide +kernel
set_option maxRecDepth 100000 in
theorem zk_X9_sides : zm_mok zm_ms (RX9, yX9_sides, cX9_sides, 3, (some .int), false, 1, 6, false, [25], zt_X9_sides) := ⟨rfl, by decide +kernel, ⟨by decide +kernel, by decide +kernel⟩, zm_WL_in 266 rfl rfl, zm_WL_in 44 (by decide +kernel) rfl, by decide +kernel, (fun h => Bool.noConfusion h), (fun _ => ⟨zm_WL_in 264 (by decide +kernel) rfl, zm_WL_in 265 (by decide +kernel) rfl, TX9, 13, rfl⟩), by decide, zm_tb_ok rfl zk_X9_sides_t⟩
set_option maxRecDepth 100000 in
theorem zk_X9_feed_t : zm_tb 9 cX9_feed false (some .int) zt_X9_feed = true := by decide +kernel
set_option maxRecDepth 100000 in
theorem zk_X9_feed : zm_mok zm_ms (RX9, yX9_feed, cX9_feed, 2, (some .int), false, 1, 6, false, [22], zt_X9_feed) := ⟨rfl, by decide +kernel, ⟨by decide +kernel, by decide +kernel⟩, zm_WL_in 304 rfl rfl, zm_WL_in 44 (by decide +kernel) rfl, by decide +kernel, (fun h => Bool.noConfusion h), (fun _ => ⟨zm_WL_in 302 (by decide +kernel) rfl, zm_WL_in 303 (by decide +kernel) rfl, TX9, 13, rfl⟩), by decide, zm_tb_ok rfl zk_X9_feed_t⟩
set_option maxRecDepth 100000 in
theorem zk_X9_words_t : zm_tb 9 cX9_words false (some .int) zt_X9_words = true := by decide +kernel
set_option maxRecDepth 100000 in
theorem zk_X9_words : zm_mok zm_ms (RX9, yX9_words, cX9_words, 3, (some .int), false, 0, 6, false, [14, 58], zt_X9_words) := ⟨rfl, by decide +kernel, ⟨by decide +kernel, by decide +kernel⟩, zm_WL_in 312 rfl rfl, zm_WL_in 44 (by decide +kernel) rfl, by decide +kernel, (fun h => Bool.noConfusion h), (fun _ => ⟨zm_WL_in 310 (by decide +kernel) rfl, zm_WL_in 311 (by decide +kernel) rfl, TX9, 13, rfl⟩), by decide, zm_tb_ok rfl zk_X9_words_t⟩
set_option maxRecDepth 100000 in
theorem zk_X9_becomes_t : zm_tb 9 cX9_becomes false (some .int) zt_X9_becomes = true := by decide +kernel
set_option maxRecDepth 100000 in
theorem zk_X9_becomes : zm_mok zm_ms (RX9, yX9_becomes, cX9_becomes, 4, (some .int), false, 2, 6, false, [8, 24], zt_X9_becomes) := ⟨rfl, by decide +kernel, ⟨by decide +kernel, by decide +kernel⟩, zm_WL_in 337 rfl rfl, zm_WL_in 44 (by decide +kernel) rfl, by decide +kernel, (fun h => Bool.noConfusion h), (fun _ => ⟨zm_WL_in 335 (by decide +kernel) rfl, zm_WL_in 336 (by decide +kernel) rfl, TX9, 13, rfl⟩), by decide, zm_tb_ok rfl zk_X9_becomes_t⟩
set_option maxRecDepth 100000 in
theorem zk_X9_of_t : zm_tb 9 cX9_of false (some .int) zt_X9_of = true := by decide +kernel
set_option maxRecDepth 100000 in
theorem zk_X9_of : zm_mok zm_ms (RX9, yX9_of, cX9_of, 4, (some .int), false, 2, 6, false, [8, 21], zt_X9_of) := ⟨rfl, by decide +kernel, ⟨by decide +kernel, by decide +kernel⟩, zm_WL_in 343 rfl rfl, zm_WL_in 44 (by decide +kernel) rfl, by decide +kernel, (fun h => Bool.noConfusion h), (fun _ => ⟨zm_WL_in 341 (by decide +kernel) rfl, zm_WL_in 342 (by decide +kernel) rfl, TX9, 13, rfl⟩), by decide, zm_tb_ok rfl zk_X9_of_t⟩
set_option maxRecDepth 100000 in
theorem zk_X9_overlaps_t : zm_tb 9 cX9_overlaps false (some .int) zt_X9_overlaps = true := by decide +kernel
set_option maxRecDepth 100000 in
theorem zk_X9_overlaps : zm_mok zm_ms (RX9, yX9_overlaps, cX9_overlaps, 3, (some .int), false, 2, 6, false, [8, 19, 32], zt_X9_overlaps) := ⟨rfl, by decide +kernel, ⟨by decide +kernel, by decide +kernel⟩, zm_WL_in 369 rfl rfl, zm_WL_in 44 (by decide +kernel) rfl, by decide +kernel, (fun h => Bool.noConfusion h), (fun _ => ⟨zm_WL_in 367 (by decide +kernel) rfl, zm_WL_in 368 (by decide +kernel) rfl, TX9, 13, rfl⟩), by decide, zm_tb_ok rfl zk_X9_overlaps_t⟩
set_option maxRecDepth 100000 in
theorem zk_X9_number_t : zm_tb 9 cX9_number false (some .int) zt_X9_number = true := by decide +kernel
set_option maxRecDepth 100000 in
theorem zk_X9_number : zm_mok zm_ms (RX9, yX9_number, cX9_number, 3, (some .int), false, 2, 6, false, [8, 19, 32, 40], zt_X9_number) := ⟨rfl, by decide +kernel, ⟨by decide +kernel, by decide +kernel⟩, zm_WL_in 374 rfl rfl, zm_WL_in 44 (by decide +kernel) rfl, by decide +kernel, (fun h => Bool.noConfusion h), (fun _ => ⟨zm_WL_in 372 (by decide +kernel) rfl, zm_WL_in 373 (by decide +kernel) rfl, TX9, 13, rfl⟩), by decide, zm_tb_ok rfl zk_X9_number_t⟩
set_option maxRecDepth 100000 in
theorem zk_X9_isIn_t : zm_tb 9 cX9_isIn false (some .int) zt_X9_isIn = true := by decide +kernel
set_option maxRecDepth 100000 in
theorem zk_X9_isIn : zm_mok zm_ms (RX9, yX9_isIn, cX9_isIn, 3, (some .int), false, 2, 6, false, [8, 19, 32], zt_X9_isIn) := ⟨rfl, by decide +kernel, ⟨by decide +kernel, by decide +kernel⟩, zm_WL_in 378 rfl rfl, zm_WL_in 44 (by decide +kernel) rfl, by decide +kernel, (fun h => Bool.noConfusion h), (fun _ => ⟨zm_WL_in 376 (by decide +kernel) rfl, zm_WL_in 377 (by decide +kernel) rfl, TX9, 13, rfl⟩), by decide, zm_tb_ok rfl zk_X9_isIn_t⟩
set_option maxRecDepth 100000 in
theorem zk_X9_chance_t : zm_tb 9 cX9_chance false (some .long) zt_X9_chance = true := by decide +kernel
set_option maxRecDepth 100000 in
theorem zk_X9_chance : zm_mok zm_ms (RX9, yX9_chance, cX9_chance, 4, (some .long), false, 3, 6, false, [8, 26, 41, 49], zt_X9_chance) := ⟨rfl, by decide +kernel, ⟨by decide +kernel, by decide +kernel⟩, zm_WL_in 385 rfl rfl, zm_WL_in 44 (by decide +kernel) rfl, by decide +kernel, (fun h => Bool.noConfusion h), (fun _ => ⟨zm_WL_in 383 (by decide +kernel) rfl, zm_WL_in 384 (by decide +kernel) rfl, TX9, 13, rfl⟩), by decide, zm_tb_ok rfl zk_X9_chance_t⟩
set_option maxRecDepth 100000 in
theorem zk_X9_answered_t : zm_tb 9 cX9_answered false (some .long) zt_X9_answered = true := by decide +kernel
set_option maxRecDepth 100000 in
theorem zk_X9_answered : zm_mok zm_ms (RX9, yX9_answered, cX9_answered, 4, (some .long), false, 2, 6, false, [15, 30, 42], zt_X9_answered) := ⟨rfl, by decide +kernel, ⟨by decide +kernel, by decide +kernel⟩, zm_WL_in 411 rfl rfl, zm_WL_in 44 (by decide +kernel) rfl, by decide +kernel, (fun h => Bool.noConfusion h), (fun _ => ⟨zm_WL_in 409 (by decide +kernel) rfl, zm_WL_in 410 (by decide +kernel) rfl, TX9, 13, rfl⟩), by decide, zm_tb_ok rfl zk_X9_answered_t⟩
set_option maxRecDepth 100000 in
theorem zk_X9_trail_t : zm_tb 9 cX9_trail false (some .int) zt_X9_trail = true := by decide +kernel
set_option maxRecDepth 100000 in
theorem zk_X9_trail : zm_mok zm_ms (RX9, yX9_trail, cX9_trail, 3, (some .int), false, 2, 6, false, [8], zt_X9_trail) := ⟨rfl, by decide +kernel, ⟨by decide +kernel, by decide +kernel⟩, zm_WL_in 415 rfl rfl, zm_WL_in 44 (by decide +kernel) rfl, by decide +kernel, (fun h => Bool.noConfusion h), (fun _ => ⟨zm_WL_in 413 (by decide +kernel) rfl, zm_WL_in 414 (by decide +kernel) rfl, TX9, 13, rfl⟩), by decide, zm_tb_ok rfl zk_X9_trail_t⟩
set_option maxRecDepth 100000 in
theorem zk_X9_ring_t : zm_tb 9 cX9_ring false (some .int) zt_X9_ring = true := by decide +kernel
set_option maxRecDepth 100000 in
theorem zk_X9_ring : zm_mok zm_ms (RX9, yX9_ring, cX9_ring, 3, (some .int), false, 1, 6, false, [11], zt_X9_ring) := ⟨rfl, by decide +kernel, ⟨by decide +kernel, by decide +kernel⟩, zm_WL_in 423 rfl rfl, zm_WL_in 44 (by decide +kernel) rfl, by decide +kernel, (fun h => Bool.noConfusion h), (fun _ => ⟨zm_WL_in 421 (by decide +kernel) rfl, zm_WL_in 422 (by decide +kernel) rfl, TX9, 13, rfl⟩), by decide, zm_tb_ok rfl zk_X9_ring_t⟩
set_option maxRecDepth 100000 in
theorem zk_X9_field_t : zm_tb 9 cX9_field false (some .long) zt_X9_field = true := by decide +kernel
set_option maxRecDepth 100000 in
theorem zk_X9_field : zm_mok zm_ms (RX9, yX9_field, cX9_field, 4, (some .long), false, 3, 6, false, [5, 24], zt_X9_field) := ⟨rfl, by decide +kernel, ⟨by decide +kernel, by decide +kernel⟩, zm_WL_in 447 rfl rfl, zm_WL_in 44 (by decide +kernel) rfl, by decide +kernel, (fun h => Bool.noConfusion h), (fun _ => ⟨zm_WL_in 445 (by decide +kernel) rfl, zm_WL_in 446 (by decide +kernel) rfl, TX9, 13, rfl⟩), by decide, zm_tb_ok rfl zk_X9_field_t⟩
set_option maxRecDepth 100000 in
theorem zk_X9_mean_t : zm_tb 9 cX9_mean false (some .long) zt_X9_mean = true := by decide +kernel
set_option maxRecDepth 100000 in
theorem zk_X9_mean : zm_mok zm_ms (RX9, yX9_mean, cX9_mean, 3, (some .long), false, 2, 6, false, [12], zt_X9_mean) := ⟨rfl, by decide +kernel, ⟨by decide +kernel, by decide +kernel⟩, zm_WL_in 505 rfl rfl, zm_WL_in 44 (by decide +kernel) rfl, by decide +kernel, (fun h => Bool.noConfusion h), (fun _ => ⟨zm_WL_in 503 (by decide +kernel) rfl, zm_WL_in 504 (by decide +kernel) rfl, TX9, 13, rfl⟩), by decide, zm_tb_ok rfl zk_X9_mean_t⟩
set_option maxRecDepth 100000 in
theorem zk_X9_within_t : zm_tb 9 cX9_within false (some .int) zt_X9_within = true := by decide +kernel
set_option maxRecDepth 100000 in
theorem zk_X9_within : zm_mok zm_ms (RX9, yX9_within, cX9_within, 4, (some .int), false, 3, 6, false, [8, 29, 58, 65], zt_X9_within) := ⟨rfl, by decide +kernel, ⟨by decide +kernel, by decide +kernel⟩, zm_WL_in 513 rfl rfl, zm_WL_in 44 (by decide +kernel) rfl, by decide +kernel, (fun h => Bool.noConfusion h), (fun _ => ⟨zm_WL_in 511 (by decide +kernel) rfl, zm_WL_in 512 (by decide +kernel) rfl, TX9, 13, rfl⟩), by decide, zm_tb_ok rfl zk_X9_within_t⟩
set_option maxRecDepth 100000 in
theorem zk_X9_cast_t : zm_tb 9 cX9_cast false (some .int) zt_X9_cast = true := by decide +kernel
set_option maxRecDepth 100000 in
theorem zk_X9_cast : zm_mok zm_ms (RX9, yX9_cast, cX9_cast, 2, (some .int), false, 1, 6, false, [30], zt_X9_cast) := ⟨rfl, by decide +kernel, ⟨by decide +kernel, by decide +kernel⟩, zm_WL_in 531 rfl rfl, zm_WL_in 44 (by decide +kernel) rfl, by decide +kernel, (fun h => Bool.noConfusion h), (fun _ => ⟨zm_WL_in 529 (by decide +kernel) rfl, zm_WL_in 530 (by decide +kernel) rfl, TX9, 13, rfl⟩), by decide, zm_tb_ok rfl zk_X9_cast_t⟩
set_option maxRecDepth 100000 in
theorem zk_X9_casts_t : zm_tb 9 cX9_casts false (some .int) zt_X9_casts = true := by decide +kernel
set_option maxRecDepth 100000 in
theorem zk_X9_casts : zm_mok zm_ms (RX9, yX9_casts, cX9_casts, 5, (some .int), false, 2, 6, false, [19, 29], zt_X9_casts) := ⟨rfl, by decide +kernel, ⟨by decide +kernel, by decide +kernel⟩, zm_WL_in 539 rfl rfl, zm_WL_in 44 (by decide +kernel) rfl, by decide +kernel, (fun h => Bool.noConfusion h), (fun _ => ⟨zm_WL_in 537 (by decide +kernel) rfl, zm_WL_in 538 (by decide +kernel) rfl, TX9, 13, rfl⟩), by decide, zm_tb_ok rfl zk_X9_casts_t⟩
set_option maxRecDepth 100000 in
theorem zk_X9_wipe_t : zm_tb 9 cX9_wipe false (some .int) zt_X9_wipe = true := by decide +kernel
set_option maxRecDepth 100000 in
theorem zk_X9_wipe : zm_mok zm_ms (RX9, yX9_wipe, cX9_wipe, 2, (some .int), false, 0, 6, false, [], zt_X9_wipe) := ⟨rfl, by decide +kernel, ⟨by decide +kernel, by decide +kernel⟩, zm_WL_in 550 rfl rfl, zm_WL_in 44 (by decide +kernel) rfl, by decide +kernel, (fun h => Bool.noConfusion h), (fun _ => ⟨zm_WL_in 548 (by decide +kernel) rfl, zm_WL_in 549 (by decide +kernel) rfl, TX9, 13, rfl⟩), by decide, zm_tb_ok rfl zk_X9_wipe_t⟩
set_option maxRecDepth 100000 in
theorem zk_X9_strip_t : zm_tb 9 cX9_strip false (some .int) zt_X9_strip = true := by decide +kernel
set_option maxRecDepth 100000 in
theorem zk_X9_strip : zm_mok zm_ms (RX9, yX9_strip, cX9_strip, 2, (some .int), false, 1, 6, false, [11], zt_X9_strip) := ⟨rfl, by decide +kernel, ⟨by decide +kernel, by decide +kernel⟩, zm_WL_in 554 rfl rfl, zm_WL_in 44 (by decide +kernel) rfl, by decide +kernel, (fun h => Bool.noConfusion h), (fun _ => ⟨zm_WL_in 552 (by decide +kernel) rfl, zm_WL_in 553 (by decide +kernel) rfl, TX9, 13, rfl⟩), by decide, zm_tb_ok rfl zk_X9_strip_t⟩
set_option maxRecDepth 100000 in
theorem zk_X9_ends_t : zm_tb 9 cX9_ends false (some .long) zt_X9_ends = true := by decide +kernel
set_option maxRecDepth 100000 in
theorem zk_X9_ends : zm_mok zm_ms (RX9, yX9_ends, cX9_ends, 2, (some .long), false, 1, 6, false, [8], zt_X9_ends) := ⟨rfl, by decide +kernel, ⟨by decide +kernel, by decide +kernel⟩, zm_WL_in 559 rfl rfl, zm_WL_in 44 (by decide +kernel) rfl, by decide +kernel, (fun h => Bool.noConfusion h), (fun _ => ⟨zm_WL_in 557 (by decide +kernel) rfl, zm_WL_in 558 (by decide +kernel) rfl, TX9, 13, rfl⟩), by decide, zm_tb_ok rfl zk_X9_ends_t⟩
set_option maxRecDepth 100000 in
theorem zk_X9_seen_t : zm_tb 9 cX9_seen false (some .int) zt_X9_seen = true := by decide +kernel
set_option maxRecDepth 100000 in
theorem zk_X9_seen : zm_mok zm_ms (RX9, yX9_seen, cX9_seen, 4, (some .int), false, 2, 6, false, [8, 21], zt_X9_seen) := ⟨rfl, by decide +kernel, ⟨by decide +kernel, by decide +kernel⟩, zm_WL_in 577 rfl rfl, zm_WL_in 44 (by decide +kernel) rfl, by decide +kernel, (fun h => Bool.noConfusion h), (fun _ => ⟨zm_WL_in 575 (by decide +kernel) rfl, zm_WL_in 576 (by decide +kernel) rfl, TX9, 13, rfl⟩), by decide, zm_tb_ok rfl zk_X9_seen_t⟩
set_option maxRecDepth 100000 in
theorem zk_X9_who_t : zm_tb 9 cX9_who false (some .int) zt_X9_who = true := by decide +kernel
set_option maxRecDepth 100000 in
theorem zk_X9_who : zm_mok zm_ms (RX9, yX9_who, cX9_who, 1, (some .int), false, 0, 6, false, [], zt_X9_who) := ⟨rfl, by decide +kernel, ⟨by decide +kernel, by decide +kernel⟩, zm_WL_in 598 rfl rfl, zm_WL_in 44 (by decide +kernel) rfl, by decide +kernel, (fun h => Bool.noConfusion h), (fun _ => ⟨zm_WL_in 596 (by decide +kernel) rfl, zm_WL_in 597 (by decide +kernel) rfl, TX9, 13, rfl⟩), by decide, zm_tb_ok rfl zk_X9_who_t⟩
set_option maxRecDepth 100000 in
theorem zk_X9_were_t : zm_tb 9 cX9_were false (some .int) zt_X9_were = true := by decide +kernel
set_option maxRecDepth 100000 in
theorem zk_X9_were : zm_mok zm_ms (RX9, yX9_were, cX9_were, 5, (some .int), false, 2, 6, false, [11, 22, 46], zt_X9_were) := ⟨rfl, by decide +kernel, ⟨by decide +kernel, by decide +kernel⟩, zm_WL_in 608 rfl rfl, zm_WL_in 44 (by decide +kernel) rfl, by decide +kernel, (fun h => Bool.noConfusion h), (fun _ => ⟨zm_WL_in 606 (by decide +kernel) rfl, zm_WL_in 607 (by decide +kernel) rfl, TX9, 13, rfl⟩), by decide, zm_tb_ok rfl zk_X9_were_t⟩
set_option maxRecDepth 100000 in
theorem zk_X9_player_t : zm_tb 9 cX9_player false (some .int) zt_X9_player = true := by decide +kernel
set_option maxRecDepth 100000 in
theorem zk_X9_player : zm_mok zm_ms (RX9, yX9_player, cX9_player, 3, (some .int), false, 2, 6, false, [18, 32], zt_X9_player) := ⟨rfl, by decide +kernel, ⟨by decide +kernel, by decide +kernel⟩, zm_WL_in 619 rfl rfl, zm_WL_in 44 (by decide +kernel) rfl, by decide +kernel, (fun h => Bool.noConfusion h), (fun _ => ⟨zm_WL_in 617 (by decide +kernel) rfl, zm_WL_in 618 (by decide +kernel) rfl, TX9, 13, rfl⟩), by decide, zm_tb_ok rfl zk_X9_player_t⟩
set_option maxRecDepth 100000 in
theorem zk_X9_playerOf_t : zm_tb 9 cX9_playerOf false (some .int) zt_X9_playerOf = true := by decide +kernel
set_option maxRecDepth 100000 in
theorem zk_X9_playerOf : zm_mok zm_ms (RX9, yX9_playerOf, cX9_playerOf, 3, (some .int), false, 2, 6, false, [8], zt_X9_playerOf) := ⟨rfl, by decide +kernel, ⟨by decide +kernel, by decide +kernel⟩, zm_WL_in 627 rfl rfl, zm_WL_in 44 (by decide +kernel) rfl, by decide +kernel, (fun h => Bool.noConfusion h), (fun _ => ⟨zm_WL_in 625 (by decide +kernel) rfl, zm_WL_in 626 (by decide +kernel) rfl, TX9, 13, rfl⟩), by decide, zm_tb_ok rfl zk_X9_playerOf_t⟩
set_option maxRecDepth 100000 in
theorem zk_X9_pick_t : zm_tb 9 cX9_pick false (some .int) zt_X9_pick = true := by decide +kernel
set_option maxRecDepth 100000 in
theorem zk_X9_pick : zm_mok zm_ms (RX9, yX9_pick, cX9_pick, 4, (some .int), false, 3, 6, false, [9], zt_X9_pick) := ⟨rfl, by decide +kernel, ⟨by decide +kernel, by decide +kernel⟩, zm_WL_in 667 rfl rfl, zm_WL_in 44 (by decide +kernel) rfl, by decide +kernel, (fun h => Bool.noConfusion h), (fun _ => ⟨zm_WL_in 665 (by decide +kernel) rfl, zm_WL_in 666 (by decide +kernel) rfl, TX9, 13, rfl⟩), by decide, zm_tb_ok rfl zk_X9_pick_t⟩
set_option maxRecDepth 100000 in
theorem zk_X9_match_t : zm_tb 9 cX9_match false (some .long) zt_X9_match = true := by decide +kernel
set_option maxRecDepth 100000 in
theorem zk_X9_match : zm_mok zm_ms (RX9, yX9_match, cX9_match, 5, (some .long), false, 3, 6, false, [16, 31, 45], zt_X9_match) := ⟨rfl, by decide +kernel, ⟨by decide +kernel, by decide +kernel⟩, zm_WL_in 680 rfl rfl, zm_WL_in 44 (by decide +kernel) rfl, by decide +kernel, (fun h => Bool.noConfusion h), (fun _ => ⟨zm_WL_in 678 (by decide +kernel) rfl, zm_WL_in 679 (by decide +kernel) rfl, TX9, 13, rfl⟩), by decide, zm_tb_ok rfl zk_X9_match_t⟩
set_option maxRecDepth 100000 in
theorem zk_X9_duel_t : zm_tb 9 cX9_duel false (some .int) zt_X9_duel = true := by decide +kernel
set_option maxRecDepth 100000 in
theorem zk_X9_duel : zm_mok zm_ms (RX9, yX9_duel, cX9_duel, 7, (some .int), false, 4, 6, false, [9, 33, 52, 77], zt_X9_duel) := ⟨rfl, by decide +kernel, ⟨by decide +kernel, by decide +kernel⟩, zm_WL_in 684 rfl rfl, zm_WL_in 44 (by decide +kernel) rfl, by decide +kernel, (fun h => Bool.noConfusion h), (fun _ => ⟨zm_WL_in 682 (by decide +kernel) rfl, zm_WL_in 683 (by decide +kernel) rfl, TX9, 13, rfl⟩), by decide, zm_tb_ok rfl zk_X9_duel_t⟩
set_option maxRecDepth 100000 in
theorem zk_X9_odds_t : zm_tb 9 cX9_odds false (some .long) zt_X9_odds = true := by decide +kernel
set_option maxRecDepth 100000 in
theorem zk_X9_odds : zm_mok zm_ms (RX9, yX9_odds, cX9_odds, 10, (some .long), false, 5, 6, false, [30, 45, 77, 106], zt_X9_odds) := ⟨rfl, by decide +kernel, ⟨by decide +kernel, by decide +kernel⟩, zm_WL_in 701 rfl rfl, zm_WL_in 44 (by decide +kernel) rfl, by decide +kernel, (fun h => Bool.noConfusion h), (fun _ => ⟨zm_WL_in 699 (by decide +kernel) rfl, zm_WL_in 700 (by decide +kernel) rfl, TX9, 13, rfl⟩), by decide, zm_tb_ok rfl zk_X9_odds_t⟩
set_option maxRecDepth 100000 in
theorem zk_X9_plan_t : zm_tb 9 cX9_plan false (some .int) zt_X9_plan = true := by decide +kernel
set_option maxRecDepth 100000 in
theorem zk_X9_plan : zm_mok zm_ms (RX9, yX9_plan, cX9_plan, 3, (some .int), false, 2, 6, false, [37, 52], zt_X9_plan) := ⟨rfl, by decide +kernel, ⟨by decide +kernel, by decide +kernel⟩, zm_WL_in 706 rfl rfl, zm_WL_in 44 (by decide +kernel) rfl, by decide +kernel, (fun h => Bool.noConfusion h), (fun _ => ⟨zm_WL_in 704 (by decide +kernel) rfl, zm_WL_in 705 (by decide +kernel) rfl, TX9, 13, rfl⟩), by decide, zm_tb_ok rfl zk_X9_plan_t⟩
set_option maxRecDepth 100000 in
theorem zk_X9_behind_t : zm_tb 9 cX9_behind false (some .int) zt_X9_behind = true := by decide +kernel
set_option maxRecDepth 100000 in
theorem zk_X9_behind : zm_mok zm_ms (RX9, yX9_behind, cX9_behind, 3, (some .int), false, 1, 6, false, [11, 41, 52], zt_X9_behind) := ⟨rfl, by decide +kernel, ⟨by decide +kernel, by decide +kernel⟩, zm_WL_in 717 rfl rfl, zm_WL_in 44 (by decide +kernel) rfl, by decide +kernel, (fun h => Bool.noConfusion h), (fun _ => ⟨zm_WL_in 715 (by decide +kernel) rfl, zm_WL_in 716 (by decide +kernel) rfl, TX9, 13, rfl⟩), by decide, zm_tb_ok rfl zk_X9_behind_t⟩
set_option maxRecDepth 100000 in
theorem zk_X9_write_t : zm_tb 9 cX9_write false (some .int) zt_X9_write = true := by decide +kernel
set_option maxRecDepth 100000 in
theorem zk_X9_write : zm_mok zm_ms (RX9, yX9_write, cX9_write, 2, (some .int), false, 1, 6, false, [18], zt_X9_write) := ⟨rfl, by decide +kernel, ⟨by decide +kernel, by decide +kernel⟩, zm_WL_in 738 rfl rfl, zm_WL_in 44 (by decide +kernel) rfl, by decide +kernel, (fun h => Bool.noConfusion h), (fun _ => ⟨zm_WL_in 736 (by decide +kernel) rfl, zm_WL_in 737 (by decide +kernel) rfl, TX9, 13, rfl⟩), by decide, zm_tb_ok rfl zk_X9_write_t⟩
set_option maxRecDepth 100000 in
theorem zk_X9_paper_t : zm_tb 9 cX9_paper false (some .int) zt_X9_paper = true := by decide +kernel
set_option maxRecDepth 100000 in
theorem zk_X9_paper : zm_mok zm_ms (RX9, yX9_paper, cX9_paper, 2, (some .int), false, 1, 6, false, [], zt_X9_paper) := ⟨rfl, by decide +kernel, ⟨by decide +kernel, by decide +kernel⟩, zm_WL_in 754 rfl rfl, zm_WL_in 44 (by decide +kernel) rfl, by decide +kernel, (fun h => Bool.noConfusion h), (fun _ => ⟨zm_WL_in 752 (by decide +kernel) rfl, zm_WL_in 753 (by decide +kernel) rfl, TX9, 13, rfl⟩), by decide, zm_tb_ok rfl zk_X9_paper_t⟩
set_option maxRecDepth 100000 in
theorem zk_X9_judge_t : zm_tb 9 cX9_judge false (some .int) zt_X9_judge = true := by decide +kernel
set_option maxRecDepth 100000 in
theorem zk_X9_judge : zm_mok zm_ms (RX9, yX9_judge, cX9_judge, 4, (some .int), false, 1, 6, false, [4, 23, 47, 68], zt_X9_judge) := ⟨rfl, by decide +kernel, ⟨by decide +kernel, by decide +kernel⟩, zm_WL_in 758 rfl rfl, zm_WL_in 44 (by decide +kernel) rfl, by decide +kernel, (fun h => Bool.noConfusion h), (fun _ => ⟨zm_WL_in 756 (by decide +kernel) rfl, zm_WL_in 757 (by decide +kernel) rfl, TX9, 13, rfl⟩), by decide, zm_tb_ok rfl zk_X9_judge_t⟩
