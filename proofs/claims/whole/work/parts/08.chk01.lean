theorem ck_X0_init : gm_mfb 0 (yX0_init, cX0_init, 2, none, 0, cd_X0_init) 340 69 = true := by decide +kernel
theorem ck_X0_keep : gm_mfb 1 (yX0_keep, cX0_keep, 2, none, 0, cd_X0_keep) 534 69 = true := by decide +kernel
theorem ck_X0_takeBack : gm_mfb 2 (yX0_takeBack, cX0_takeBack, 2, (some .boolean), 0, cd_X0_takeBack) 515 69 = true := by decide +kernel
theorem ck_X0_forgetAll : gm_mfb 3 (yX0_forgetAll, cX0_forgetAll, 1, none, 0, cd_X0_forgetAll) 503 69 = true := by decide +kernel
theorem ck_X1_init : gm_mfb 4 (yX1_init, cX1_init, 1, none, 1, cd_X1_init) 166 66 = true := by decide +kernel
theorem ck_X1_begin : gm_mfb 5 (yX1_begin, cX1_begin, 4, none, 1, cd_X1_begin) 484 66 = true := by decide +kernel
theorem ck_X1_takeOver : gm_mfb 6 (yX1_takeOver, cX1_takeOver, 2, none, 1, cd_X1_takeOver) 498 66 = true := by decide +kernel
theorem ck_X1_end : gm_mfb 7 (yX1_end, cX1_end, 3, none, 1, cd_X1_end) 641 66 = true := by decide +kernel
theorem ck_X1_isEnded : gm_mfb 8 (yX1_isEnded, cX1_isEnded, 1, (some .boolean), 1, cd_X1_isEnded) 559 66 = true := by decide +kernel
theorem ck_X1_weight : gm_mfb 9 (yX1_weight, cX1_weight, 1, (some .int), 1, cd_X1_weight) 628 66 = true := by decide +kernel
theorem ck_X1_byTaste : gm_mfb 10 (yX1_byTaste, cX1_byTaste, 8, (some .int), 1, cd_X1_byTaste) 692 66 = true := by decide +kernel
theorem ck_X1_causeKind : gm_mfb 11 (yX1_causeKind, cX1_causeKind, 2, (some .int), 1, cd_X1_causeKind) 824 66 = true := by decide +kernel
theorem ck_X1_causeNumber : gm_mfb 12 (yX1_causeNumber, cX1_causeNumber, 2, (some .int), 1, cd_X1_causeNumber) 828 66 = true := by decide +kernel
theorem ck_X2_init : gm_mfb 13 (yX2_init, cX2_init, 2, none, 2, cd_X2_init) 119 64 = true := by decide +kernel
theorem ck_X2_begin : gm_mfb 14 (yX2_begin, cX2_begin, 5, none, 2, cd_X2_begin) 415 64 = true := by decide +kernel
theorem ck_X2_takeOver : gm_mfb 15 (yX2_takeOver, cX2_takeOver, 3, none, 2, cd_X2_takeOver) 490 64 = true := by decide +kernel
theorem ck_X2_isLaid : gm_mfb 16 (yX2_isLaid, cX2_isLaid, 1, (some .boolean), 2, cd_X2_isLaid) 525 64 = true := by decide +kernel
theorem ck_X2_isLetter : gm_mfb 17 (yX2_isLetter, cX2_isLetter, 2, (some .boolean), 2, cd_X2_isLetter) 546 64 = true := by decide +kernel
theorem ck_X2_isFull : gm_mfb 18 (yX2_isFull, cX2_isFull, 1, (some .boolean), 2, cd_X2_isFull) 479 64 = true := by decide +kernel
theorem ck_X2_add : gm_mfb 19 (yX2_add, cX2_add, 4, (some .int), 2, cd_X2_add) 475 64 = true := by decide +kernel
theorem ck_X2_isGolden : gm_mfb 20 (yX2_isGolden, cX2_isGolden, 2, (some .boolean), 2, cd_X2_isGolden) 550 64 = true := by decide +kernel
theorem ck_X2_goldenSpot : gm_mfb 21 (yX2_goldenSpot, cX2_goldenSpot, 3, (some .int), 2, cd_X2_goldenSpot) 554 64 = true := by decide +kernel
theorem ck_X2_makeGolden : gm_mfb 22 (yX2_makeGolden, cX2_makeGolden, 4, none, 2, cd_X2_makeGolden) 563 64 = true := by decide +kernel
theorem ck_X2_dropGolden : gm_mfb 23 (yX2_dropGolden, cX2_dropGolden, 4, none, 2, cd_X2_dropGolden) 571 64 = true := by decide +kernel
theorem ck_X2_theGoldenOne : gm_mfb 24 (yX2_theGoldenOne, cX2_theGoldenOne, 2, (some .int), 2, cd_X2_theGoldenOne) 613 64 = true := by decide +kernel
theorem ck_X2_nearPorts : gm_mfb 25 (yX2_nearPorts, cX2_nearPorts, 3, (some .int), 2, cd_X2_nearPorts) 675 64 = true := by decide +kernel
theorem ck_X2_deliver : gm_mfb 26 (yX2_deliver, cX2_deliver, 2, none, 2, cd_X2_deliver) 636 64 = true := by decide +kernel
theorem ck_X2_loseOld : gm_mfb 27 (yX2_loseOld, cX2_loseOld, 2, none, 2, cd_X2_loseOld) 649 64 = true := by decide +kernel
theorem ck_X2_loseOverrun : gm_mfb 28 (yX2_loseOverrun, cX2_loseOverrun, 3, none, 2, cd_X2_loseOverrun) 661 64 = true := by decide +kernel
theorem ck_X2_countOf : gm_mfb 29 (yX2_countOf, cX2_countOf, 4, (some .int), 2, cd_X2_countOf) 790 64 = true := by decide +kernel
theorem ck_X2_countAt : gm_mfb 30 (yX2_countAt, cX2_countAt, 5, (some .int), 2, cd_X2_countAt) 745 64 = true := by decide +kernel
theorem ck_X2_deliveredAt : gm_mfb 31 (yX2_deliveredAt, cX2_deliveredAt, 4, (some .int), 2, cd_X2_deliveredAt) 749 64 = true := by decide +kernel
theorem ck_X2_waitingAt : gm_mfb 32 (yX2_waitingAt, cX2_waitingAt, 5, (some .int), 2, cd_X2_waitingAt) 769 64 = true := by decide +kernel
theorem ck_X2_isOver : gm_mfb 33 (yX2_isOver, cX2_isOver, 1, (some .boolean), 2, cd_X2_isOver) 858 64 = true := by decide +kernel
theorem ck_X2_canStir : gm_mfb 34 (yX2_canStir, cX2_canStir, 3, (some .boolean), 2, cd_X2_canStir) 849 64 = true := by decide +kernel
theorem ck_X2_allAsides : gm_mfb 35 (yX2_allAsides, cX2_allAsides, 3, (some .int), 2, cd_X2_allAsides) 794 64 = true := by decide +kernel
theorem ck_X2_allAges : gm_mfb 36 (yX2_allAges, cX2_allAges, 3, (some .int), 2, cd_X2_allAges) 798 64 = true := by decide +kernel
theorem ck_X2_greatestAgeDelivered : gm_mfb 37 (yX2_greatestAgeDelivered, cX2_greatestAgeDelivered, 3, (some .int), 2, cd_X2_greatestAgeDelivered) 802 64 = true := by decide +kernel
theorem ck_X2_greatestAsides : gm_mfb 38 (yX2_greatestAsides, cX2_greatestAsides, 3, (some .int), 2, cd_X2_greatestAsides) 867 64 = true := by decide +kernel
theorem ck_X2_lastEndedSince : gm_mfb 39 (yX2_lastEndedSince, cX2_lastEndedSince, 5, (some .int), 2, cd_X2_lastEndedSince) 863 64 = true := by decide +kernel
theorem ck_X3_init : gm_mfb 40 (yX3_init, cX3_init, 2, none, 3, cd_X3_init) 324 68 = true := by decide +kernel
theorem ck_X3_imagine : gm_mfb 41 (yX3_imagine, cX3_imagine, 2, none, 3, cd_X3_imagine) 836 68 = true := by decide +kernel
theorem ck_X3_letGo : gm_mfb 42 (yX3_letGo, cX3_letGo, 3, (some .int), 3, cd_X3_letGo) 845 68 = true := by decide +kernel
theorem ck_X3_journey : gm_mfb 43 (yX3_journey, cX3_journey, 6, (some .int), 3, cd_X3_journey) 879 68 = true := by decide +kernel
theorem ck_X3_turnsWithFirstGolden : gm_mfb 44 (yX3_turnsWithFirstGolden, cX3_turnsWithFirstGolden, 4, (some .int), 3, cd_X3_turnsWithFirstGolden) 890 68 = true := by decide +kernel
theorem ck_X3_comesWithout : gm_mfb 45 (yX3_comesWithout, cX3_comesWithout, 6, (some .boolean), 3, cd_X3_comesWithout) 918 68 = true := by decide +kernel
theorem ck_X3_passYears : gm_mfb 46 (yX3_passYears, cX3_passYears, 9, none, 3, cd_X3_passYears) 933 68 = true := by decide +kernel
theorem ck_X4_init : gm_mfb 47 (yX4_init, cX4_init, 1, none, 4, cd_X4_init) 87 63 = true := by decide +kernel
theorem ck_X4_append : gm_mfb 48 (yX4_append, cX4_append, 2, (some .boolean), 4, cd_X4_append) 383 63 = true := by decide +kernel
theorem ck_X4_readInto : gm_mfb 49 (yX4_readInto, cX4_readInto, 2, (some .boolean), 4, cd_X4_readInto) 392 63 = true := by decide +kernel
theorem ck_X4_readHead : gm_mfb 50 (yX4_readHead, cX4_readHead, 5, (some .boolean), 4, cd_X4_readHead) 396 63 = true := by decide +kernel
theorem ck_X4_readCuts : gm_mfb 51 (yX4_readCuts, cX4_readCuts, 4, (some .boolean), 4, cd_X4_readCuts) 446 63 = true := by decide +kernel
theorem ck_X4_readLetters : gm_mfb 52 (yX4_readLetters, cX4_readLetters, 5, (some .boolean), 4, cd_X4_readLetters) 467 63 = true := by decide +kernel
theorem ck_X4_kindOf : gm_mfb 53 (yX4_kindOf, cX4_kindOf, 1, (some .int), 4, cd_X4_kindOf) 470 63 = true := by decide +kernel
theorem ck_X4_takeSign : gm_mfb 54 (yX4_takeSign, cX4_takeSign, 2, (some .boolean), 4, cd_X4_takeSign) 400 63 = true := by decide +kernel
theorem ck_X4_takeNumber : gm_mfb 55 (yX4_takeNumber, cX4_takeNumber, 4, (some .boolean), 4, cd_X4_takeNumber) 408 63 = true := by decide +kernel
theorem ck_X4_isFigure : gm_mfb 56 (yX4_isFigure, cX4_isFigure, 1, (some .boolean), 4, cd_X4_isFigure) 411 63 = true := by decide +kernel
theorem ck_X4_fail : gm_mfb 57 (yX4_fail, cX4_fail, 3, (some .boolean), 4, cd_X4_fail) 404 63 = true := by decide +kernel
theorem ck_X5_init : gm_mfb 58 (yX5_init, cX5_init, 1, none, 5, cd_X5_init) 281 67 = true := by decide +kernel
theorem ck_X5_decide : gm_mfb 59 (yX5_decide, cX5_decide, 2, none, 5, cd_X5_decide) 609 67 = true := by decide +kernel
theorem ck_X5_moveAll : gm_mfb 60 (yX5_moveAll, cX5_moveAll, 7, none, 5, cd_X5_moveAll) 723 67 = true := by decide +kernel
theorem ck_X5_lineUpNow : gm_mfb 61 (yX5_lineUpNow, cX5_lineUpNow, 2, none, 5, cd_X5_lineUpNow) 757 67 = true := by decide +kernel
theorem ck_X5_inLineAt : gm_mfb 62 (yX5_inLineAt, cX5_inLineAt, 6, (some .int), 5, cd_X5_inLineAt) 761 67 = true := by decide +kernel
theorem ck_X5_lineUp : gm_mfb 63 (yX5_lineUp, cX5_lineUp, 5, none, 5, cd_X5_lineUp) 619 67 = true := by decide +kernel
theorem ck_X5_claimOf : gm_mfb 64 (yX5_claimOf, cX5_claimOf, 3, (some .int), 5, cd_X5_claimOf) 623 67 = true := by decide +kernel
theorem ck_X5_deliverFirsts : gm_mfb 65 (yX5_deliverFirsts, cX5_deliverFirsts, 4, none, 5, cd_X5_deliverFirsts) 632 67 = true := by decide +kernel
theorem ck_X5_loseOldOnes : gm_mfb 66 (yX5_loseOldOnes, cX5_loseOldOnes, 4, none, 5, cd_X5_loseOldOnes) 645 67 = true := by decide +kernel
theorem ck_X5_loseTooMany : gm_mfb 67 (yX5_loseTooMany, cX5_loseTooMany, 4, none, 5, cd_X5_loseTooMany) 653 67 = true := by decide +kernel
