def gm_mtl : List gm_Me := [
  (yX0_init, cX0_init, 2, none, 0, cd_X0_init),
  (yX0_keep, cX0_keep, 2, none, 0, cd_X0_keep),
  (yX0_takeBack, cX0_takeBack, 2, (some .boolean), 0, cd_X0_takeBack),
  (yX0_forgetAll, cX0_forgetAll, 1, none, 0, cd_X0_forgetAll),
  (yX1_init, cX1_init, 1, none, 1, cd_X1_init),
  (yX1_begin, cX1_begin, 4, none, 1, cd_X1_begin),
  (yX1_takeOver, cX1_takeOver, 2, none, 1, cd_X1_takeOver),
  (yX1_end, cX1_end, 3, none, 1, cd_X1_end),
  (yX1_isEnded, cX1_isEnded, 1, (some .boolean), 1, cd_X1_isEnded),
  (yX1_weight, cX1_weight, 1, (some .int), 1, cd_X1_weight),
  (yX1_byTaste, cX1_byTaste, 8, (some .int), 1, cd_X1_byTaste),
  (yX1_causeKind, cX1_causeKind, 2, (some .int), 1, cd_X1_causeKind),
  (yX1_causeNumber, cX1_causeNumber, 2, (some .int), 1, cd_X1_causeNumber),
  (yX2_init, cX2_init, 2, none, 2, cd_X2_init),
  (yX2_begin, cX2_begin, 5, none, 2, cd_X2_begin),
  (yX2_takeOver, cX2_takeOver, 3, none, 2, cd_X2_takeOver),
  (yX2_isLaid, cX2_isLaid, 1, (some .boolean), 2, cd_X2_isLaid),
  (yX2_isLetter, cX2_isLetter, 2, (some .boolean), 2, cd_X2_isLetter),
  (yX2_isFull, cX2_isFull, 1, (some .boolean), 2, cd_X2_isFull),
  (yX2_add, cX2_add, 4, (some .int), 2, cd_X2_add),
  (yX2_isGolden, cX2_isGolden, 2, (some .boolean), 2, cd_X2_isGolden),
  (yX2_goldenSpot, cX2_goldenSpot, 3, (some .int), 2, cd_X2_goldenSpot),
  (yX2_makeGolden, cX2_makeGolden, 4, none, 2, cd_X2_makeGolden),
  (yX2_dropGolden, cX2_dropGolden, 4, none, 2, cd_X2_dropGolden),
  (yX2_theGoldenOne, cX2_theGoldenOne, 2, (some .int), 2, cd_X2_theGoldenOne),
  (yX2_nearPorts, cX2_nearPorts, 3, (some .int), 2, cd_X2_nearPorts),
  (yX2_deliver, cX2_deliver, 2, none, 2, cd_X2_deliver),
  (yX2_loseOld, cX2_loseOld, 2, none, 2, cd_X2_loseOld),
  (yX2_loseOverrun, cX2_loseOverrun, 3, none, 2, cd_X2_loseOverrun),
  (yX2_countOf, cX2_countOf, 4, (some .int), 2, cd_X2_countOf),
  (yX2_countAt, cX2_countAt, 5, (some .int), 2, cd_X2_countAt),
  (yX2_deliveredAt, cX2_deliveredAt, 4, (some .int), 2, cd_X2_deliveredAt),
  (yX2_waitingAt, cX2_waitingAt, 5, (some .int), 2, cd_X2_waitingAt),
  (yX2_isOver, cX2_isOver, 1, (some .boolean), 2, cd_X2_isOver),
  (yX2_canStir, cX2_canStir, 3, (some .boolean), 2, cd_X2_canStir),
  (yX2_allAsides, cX2_allAsides, 3, (some .int), 2, cd_X2_allAsides),
  (yX2_allAges, cX2_allAges, 3, (some .int), 2, cd_X2_allAges),
  (yX2_greatestAgeDelivered, cX2_greatestAgeDelivered, 3, (some .int), 2, cd_X2_greatestAgeDelivered),
  (yX2_greatestAsides, cX2_greatestAsides, 3, (some .int), 2, cd_X2_greatestAsides),
  (yX2_lastEndedSince, cX2_lastEndedSince, 5, (some .int), 2, cd_X2_lastEndedSince),
  (yX3_init, cX3_init, 2, none, 3, cd_X3_init),
  (yX3_imagine, cX3_imagine, 2, none, 3, cd_X3_imagine),
  (yX3_letGo, cX3_letGo, 3, (some .int), 3, cd_X3_letGo),
  (yX3_journey, cX3_journey, 6, (some .int), 3, cd_X3_journey),
  (yX3_turnsWithFirstGolden, cX3_turnsWithFirstGolden, 4, (some .int), 3, cd_X3_turnsWithFirstGolden),
  (yX3_comesWithout, cX3_comesWithout, 6, (some .boolean), 3, cd_X3_comesWithout),
  (yX3_passYears, cX3_passYears, 9, none, 3, cd_X3_passYears),
  (yX4_init, cX4_init, 1, none, 4, cd_X4_init),
  (yX4_append, cX4_append, 2, (some .boolean), 4, cd_X4_append),
  (yX4_readInto, cX4_readInto, 2, (some .boolean), 4, cd_X4_readInto),
  (yX4_readHead, cX4_readHead, 5, (some .boolean), 4, cd_X4_readHead),
  (yX4_readCuts, cX4_readCuts, 4, (some .boolean), 4, cd_X4_readCuts),
  (yX4_readLetters, cX4_readLetters, 5, (some .boolean), 4, cd_X4_readLetters),
  (yX4_kindOf, cX4_kindOf, 1, (some .int), 4, cd_X4_kindOf),
  (yX4_takeSign, cX4_takeSign, 2, (some .boolean), 4, cd_X4_takeSign),
  (yX4_takeNumber, cX4_takeNumber, 4, (some .boolean), 4, cd_X4_takeNumber),
  (yX4_isFigure, cX4_isFigure, 1, (some .boolean), 4, cd_X4_isFigure),
  (yX4_fail, cX4_fail, 3, (some .boolean), 4, cd_X4_fail),
  (yX5_init, cX5_init, 1, none, 5, cd_X5_init),
  (yX5_decide, cX5_decide, 2, none, 5, cd_X5_decide),
  (yX5_moveAll, cX5_moveAll, 7, none, 5, cd_X5_moveAll),
  (yX5_lineUpNow, cX5_lineUpNow, 2, none, 5, cd_X5_lineUpNow),
  (yX5_inLineAt, cX5_inLineAt, 6, (some .int), 5, cd_X5_inLineAt),
  (yX5_lineUp, cX5_lineUp, 5, none, 5, cd_X5_lineUp),
  (yX5_claimOf, cX5_claimOf, 3, (some .int), 5, cd_X5_claimOf),
  (yX5_deliverFirsts, cX5_deliverFirsts, 4, none, 5, cd_X5_deliverFirsts),
  (yX5_loseOldOnes, cX5_loseOldOnes, 4, none, 5, cd_X5_loseOldOnes),
  (yX5_loseTooMany, cX5_loseTooMany, 4, none, 5, cd_X5_loseTooMany),
  (yX5_putIn, cX5_putIn, 4, none, 5, cd_X5_putIn),
  (yX5_givePorts, cX5_givePorts, 3, none, 5, cd_X5_givePorts),
  (yX5_takePort, cX5_takePort, 6, none, 5, cd_X5_takePort),
  (yX5_leastOf, cX5_leastOf, 2, (some .int), 5, cd_X5_leastOf),
  (yX5_seatAll, cX5_seatAll, 6, none, 5, cd_X5_seatAll),
  (yX5_goToHalls, cX5_goToHalls, 6, none, 5, cd_X5_goToHalls),
  (yX5_leaveHalls, cX5_leaveHalls, 7, none, 5, cd_X5_leaveHalls),
  (yX5_higher, cX5_higher, 3, (some .int), 5, cd_X5_higher),
  (yX5_wish, cX5_wish, 4, (some .int), 5, cd_X5_wish),
  (yX6_init, cX6_init, 1, none, 6, cd_X6_init),
  (yX6_lay, cX6_lay, 11, none, 6, cd_X6_lay),
  (yX6_within, cX6_within, 3, (some .int), 6, cd_X6_within),
  (yX6_layPort, cX6_layPort, 4, none, 6, cd_X6_layPort),
  (yX6_takeOver, cX6_takeOver, 2, none, 6, cd_X6_takeOver),
  (yX6_isNode, cX6_isNode, 2, (some .boolean), 6, cd_X6_isNode),
  (yX6_isLaidLink, cX6_isLaidLink, 3, (some .boolean), 6, cd_X6_isLaidLink),
  (yX6_isLink, cX6_isLink, 3, (some .boolean), 6, cd_X6_isLink),
  (yX6_linksOf, cX6_linksOf, 2, (some .int), 6, cd_X6_linksOf),
  (yX6_linkCount, cX6_linkCount, 3, (some .int), 6, cd_X6_linkCount),
  (yX6_swapsAt, cX6_swapsAt, 2, (some .boolean), 6, cd_X6_swapsAt),
  (yX6_portAcross, cX6_portAcross, 1, (some .int), 6, cd_X6_portAcross),
  (yX6_nodeBeyond, cX6_nodeBeyond, 3, (some .int), 6, cd_X6_nodeBeyond),
  (yX6_sever, cX6_sever, 4, none, 6, cd_X6_sever),
  (yX6_rejoin, cX6_rejoin, 3, none, 6, cd_X6_rejoin),
  (yX6_measure, cX6_measure, 2, none, 6, cd_X6_measure),
  (yX6_flood, cX6_flood, 9, none, 6, cd_X6_flood),
  (yX6_distance, cX6_distance, 3, (some .int), 6, cd_X6_distance),
  (yX6_portsTowards, cX6_portsTowards, 6, (some .int), 6, cd_X6_portsTowards),
  (yX6_isLesserEnd, cX6_isLesserEnd, 4, (some .boolean), 6, cd_X6_isLesserEnd),
  (yX6_parts, cX6_parts, 3, (some .boolean), 6, cd_X6_parts),
  (yX7_init, cX7_init, 2, none, 7, cd_X7_init),
  (yX7_feed, cX7_feed, 2, (some .int), 7, cd_X7_feed),
  (yX7_net, cX7_net, 2, (some .int), 7, cd_X7_net),
  (yX7_fault, cX7_fault, 1, (some .int), 7, cd_X7_fault),
  (yX7_undo, cX7_undo, 1, (some .int), 7, cd_X7_undo),
  (yX7_write, cX7_write, 4, (some .int), 7, cd_X7_write),
  (yX7_bless, cX7_bless, 2, (some .int), 7, cd_X7_bless),
  (yX7_unbless, cX7_unbless, 2, (some .int), 7, cd_X7_unbless),
  (yX7_cut, cX7_cut, 3, (some .int), 7, cd_X7_cut),
  (yX7_mend, cX7_mend, 3, (some .int), 7, cd_X7_mend),
  (yX7_turn, cX7_turn, 4, (some .int), 7, cd_X7_turn),
  (yX7_letter, cX7_letter, 4, (some .int), 7, cd_X7_letter),
  (yX7_node, cX7_node, 3, (some .int), 7, cd_X7_node),
  (yX7_at, cX7_at, 3, (some .int), 7, cd_X7_at),
  (yX7_box, cX7_box, 3, (some .int), 7, cd_X7_box),
  (yX7_rank, cX7_rank, 2, (some .int), 7, cd_X7_rank),
  (yX7_golden, cX7_golden, 2, (some .int), 7, cd_X7_golden),
  (yX7_log, cX7_log, 2, (some .int), 7, cd_X7_log),
  (yX7_sums, cX7_sums, 2, (some .int), 7, cd_X7_sums),
  (yX7_far, cX7_far, 3, (some .int), 7, cd_X7_far),
  (yX7_near, cX7_near, 3, (some .int), 7, cd_X7_near),
  (yX7_why, cX7_why, 5, (some .int), 7, cd_X7_why),
  (yX7_next, cX7_next, 2, (some .int), 7, cd_X7_next),
  (yX7_ends, cX7_ends, 3, (some .int), 7, cd_X7_ends),
  (yX7_arrives, cX7_arrives, 3, (some .int), 7, cd_X7_arrives),
  (yX7_worst, cX7_worst, 8, (some .int), 7, cd_X7_worst),
  (yX7_help, cX7_help, 5, (some .int), 7, cd_X7_help),
  (yX7_bridges, cX7_bridges, 5, (some .int), 7, cd_X7_bridges),
  (yX7_odds, cX7_odds, 13, (some .long), 7, cd_X7_odds),
  (yX7_drawn, cX7_drawn, 5, (some .int), 7, cd_X7_drawn),
  (yX7_image, cX7_image, 2, (some .int), 7, cd_X7_image),
  (yX7_restore, cX7_restore, 2, (some .int), 7, cd_X7_restore),
  (yX7_count, cX7_count, 2, (some .int), 7, cd_X7_count),
  (yX7_isKind, cX7_isKind, 1, (some .boolean), 7, cd_X7_isKind),
  (yX7_casesOf, cX7_casesOf, 6, (some .long), 7, cd_X7_casesOf),
  (yX7_commonDivisor, cX7_commonDivisor, 11, (some .long), 7, cd_X7_commonDivisor),
  (yX8_init, cX8_init, 1, none, 8, cd_X8_init),
  (yX8_in, cX8_in, 6, (some .boolean), 8, cd_X8_in),
  (yX8_has, cX8_has, 2, (some .boolean), 8, cd_X8_has),
  (yX8_ones, cX8_ones, 1, (some .int), 8, cd_X8_ones),
  (yX8_copies, cX8_copies, 5, none, 8, cd_X8_copies),
  (yX8_tries, cX8_tries, 1, none, 8, cd_X8_tries),
  (yX8_nodes, cX8_nodes, 1, (some .int), 8, cd_X8_nodes),
  (yX8_isNet, cX8_isNet, 1, (some .boolean), 8, cd_X8_isNet),
  (yX8_isNode, cX8_isNode, 2, (some .boolean), 8, cd_X8_isNode),
  (yX8_isPort, cX8_isPort, 5, (some .boolean), 8, cd_X8_isPort),
  (yX8_beyond, cX8_beyond, 7, (some .int), 8, cd_X8_beyond),
  (yX8_isLink, cX8_isLink, 3, (some .boolean), 8, cd_X8_isLink),
  (yX8_across, cX8_across, 1, (some .int), 8, cd_X8_across),
  (yX8_cuts, cX8_cuts, 4, none, 8, cd_X8_cuts),
  (yX8_manyLinks, cX8_manyLinks, 3, (some .int), 8, cd_X8_manyLinks),
  (yX8_measures, cX8_measures, 6, none, 8, cd_X8_measures),
  (yX8_nears, cX8_nears, 6, (some .boolean), 8, cd_X8_nears),
  (yX8_of, cX8_of, 3, (some .int), 8, cd_X8_of),
  (yX8_is, cX8_is, 4, none, 8, cd_X8_is),
  (yX8_adds, cX8_adds, 6, none, 8, cd_X8_adds),
  (yX8_weight, cX8_weight, 4, (some .int), 8, cd_X8_weight),
  (yX8_goldenOne, cX8_goldenOne, 3, (some .int), 8, cd_X8_goldenOne),
  (yX8_isAhead, cX8_isAhead, 4, (some .boolean), 8, cd_X8_isAhead),
  (yX8_sorts, cX8_sorts, 5, none, 8, cd_X8_sorts),
  (yX8_taste, cX8_taste, 5, (some .int), 8, cd_X8_taste),
  (yX8_isNear, cX8_isNear, 6, (some .boolean), 8, cd_X8_isNear),
  (yX8_isHere, cX8_isHere, 3, (some .boolean), 8, cd_X8_isHere),
  (yX8_manyHere, cX8_manyHere, 4, (some .int), 8, cd_X8_manyHere),
  (yX8_goldenAt, cX8_goldenAt, 4, (some .int), 8, cd_X8_goldenAt),
  (yX8_dulls, cX8_dulls, 4, none, 8, cd_X8_dulls),
  (yX8_finishes, cX8_finishes, 3, none, 8, cd_X8_finishes),
  (yX8_loses, cX8_loses, 4, none, 8, cd_X8_loses),
  (yX8_delivers, cX8_delivers, 5, none, 8, cd_X8_delivers),
  (yX8_wears, cX8_wears, 5, none, 8, cd_X8_wears),
  (yX8_firstIn, cX8_firstIn, 5, (some .int), 8, cd_X8_firstIn),
  (yX8_putsIn, cX8_putsIn, 3, none, 8, cd_X8_putsIn),
  (yX8_takes, cX8_takes, 8, none, 8, cd_X8_takes),
  (yX8_wish, cX8_wish, 8, (some .int), 8, cd_X8_wish),
  (yX8_firstOf, cX8_firstOf, 5, (some .int), 8, cd_X8_firstOf),
  (yX8_swaps, cX8_swaps, 11, none, 8, cd_X8_swaps),
  (yX8_ports, cX8_ports, 9, none, 8, cd_X8_ports),
  (yX8_moves, cX8_moves, 6, none, 8, cd_X8_moves),
  (yX8_turns, cX8_turns, 4, none, 8, cd_X8_turns),
  (yX8_isGoing, cX8_isGoing, 3, (some .boolean), 8, cd_X8_isGoing),
  (yX8_letsGo, cX8_letsGo, 3, (some .int), 8, cd_X8_letsGo),
  (yX8_byteAt, cX8_byteAt, 2, (some .int), 8, cd_X8_byteAt),
  (yX8_reads, cX8_reads, 2, none, 8, cd_X8_reads),
  (yX8_bad, cX8_bad, 2, none, 8, cd_X8_bad),
  (yX8_goesOn, cX8_goesOn, 1, none, 8, cd_X8_goesOn),
  (yX8_number, cX8_number, 4, (some .int), 8, cd_X8_number),
  (yX8_sign, cX8_sign, 2, none, 8, cd_X8_sign),
  (yX8_isLetter, cX8_isLetter, 2, (some .boolean), 8, cd_X8_isLetter),
  (yX8_sort, cX8_sort, 1, (some .int), 8, cd_X8_sort),
  (yX8_readsCut, cX8_readsCut, 3, none, 8, cd_X8_readsCut),
  (yX8_readsLetter, cX8_readsLetter, 4, none, 8, cd_X8_readsLetter),
  (yX8_laysLinks, cX8_laysLinks, 3, none, 8, cd_X8_laysLinks),
  (yX8_feed, cX8_feed, 2, (some .int), 8, cd_X8_feed),
  (yX8_net, cX8_net, 2, (some .int), 8, cd_X8_net),
  (yX8_fault, cX8_fault, 1, (some .int), 8, cd_X8_fault),
  (yX8_notes, cX8_notes, 2, none, 8, cd_X8_notes),
  (yX8_undo, cX8_undo, 1, (some .int), 8, cd_X8_undo),
  (yX8_isLetterThere, cX8_isLetterThere, 2, (some .boolean), 8, cd_X8_isLetterThere),
  (yX8_write, cX8_write, 4, (some .int), 8, cd_X8_write),
  (yX8_bless, cX8_bless, 2, (some .int), 8, cd_X8_bless),
  (yX8_unbless, cX8_unbless, 2, (some .int), 8, cd_X8_unbless),
  (yX8_isPortThere, cX8_isPortThere, 3, (some .boolean), 8, cd_X8_isPortThere),
  (yX8_cut, cX8_cut, 3, (some .int), 8, cd_X8_cut),
  (yX8_mend, cX8_mend, 3, (some .int), 8, cd_X8_mend),
  (yX8_turn, cX8_turn, 4, (some .int), 8, cd_X8_turn),
  (yX8_letter, cX8_letter, 4, (some .int), 8, cd_X8_letter),
  (yX8_waitingAt, cX8_waitingAt, 3, (some .int), 8, cd_X8_waitingAt),
  (yX8_deliveredAt, cX8_deliveredAt, 4, (some .int), 8, cd_X8_deliveredAt),
  (yX8_node, cX8_node, 3, (some .int), 8, cd_X8_node),
  (yX8_at, cX8_at, 5, (some .int), 8, cd_X8_at),
  (yX8_box, cX8_box, 3, (some .int), 8, cd_X8_box),
  (yX8_rank, cX8_rank, 2, (some .int), 8, cd_X8_rank),
  (yX8_golden, cX8_golden, 2, (some .int), 8, cd_X8_golden),
  (yX8_log, cX8_log, 2, (some .int), 8, cd_X8_log),
  (yX8_lost, cX8_lost, 3, (some .int), 8, cd_X8_lost),
  (yX8_all, cX8_all, 4, (some .int), 8, cd_X8_all),
  (yX8_oldest, cX8_oldest, 4, (some .int), 8, cd_X8_oldest),
  (yX8_sums, cX8_sums, 2, (some .int), 8, cd_X8_sums),
  (yX8_far, cX8_far, 3, (some .int), 8, cd_X8_far),
  (yX8_near, cX8_near, 6, (some .int), 8, cd_X8_near),
  (yX8_why, cX8_why, 5, (some .int), 8, cd_X8_why),
  (yX8_next, cX8_next, 2, (some .int), 8, cd_X8_next),
  (yX8_last, cX8_last, 5, (some .int), 8, cd_X8_last),
  (yX8_greatestAsides, cX8_greatestAsides, 3, (some .int), 8, cd_X8_greatestAsides),
  (yX8_ends, cX8_ends, 3, (some .int), 8, cd_X8_ends),
  (yX8_arrives, cX8_arrives, 3, (some .int), 8, cd_X8_arrives),
  (yX8_takesTill, cX8_takesTill, 3, (some .int), 8, cd_X8_takesTill),
  (yX8_worst, cX8_worst, 8, (some .int), 8, cd_X8_worst),
  (yX8_help, cX8_help, 6, (some .int), 8, cd_X8_help),
  (yX8_reached, cX8_reached, 4, (some .int), 8, cd_X8_reached),
  (yX8_bridges, cX8_bridges, 9, (some .int), 8, cd_X8_bridges),
  (yX8_gcd, cX8_gcd, 10, (some .long), 8, cd_X8_gcd),
  (yX8_odds, cX8_odds, 14, (some .long), 8, cd_X8_odds),
  (yX8_drawn, cX8_drawn, 10, (some .int), 8, cd_X8_drawn),
  (yX8_image, cX8_image, 2, (some .int), 8, cd_X8_image),
  (yX8_restore, cX8_restore, 2, (some .int), 8, cd_X8_restore),
  (yX8_manyAre, cX8_manyAre, 4, (some .int), 8, cd_X8_manyAre),
  (yX8_count, cX8_count, 2, (some .int), 8, cd_X8_count),
  (yJ6_bitCount_0f7a4, cJ6_bitCount_0f7a4, 1, (some .int), 10, cd_J6_bitCount_0f7a4),
  (yJ7_fill_53178, cJ7_fill_53178, 4, none, 12, cd_J7_fill_53178)]
def MT (k : Nat) : Option gm_Me := gm_mtl[k]?
abbrev k_X0_init : Nat := 0
theorem mt_X0_init : MT 0 = some (yX0_init, cX0_init, 2, none, 0, cd_X0_init) := rfl
abbrev k_X0_keep : Nat := 1
theorem mt_X0_keep : MT 1 = some (yX0_keep, cX0_keep, 2, none, 0, cd_X0_keep) := rfl
abbrev k_X0_takeBack : Nat := 2
theorem mt_X0_takeBack : MT 2 = some (yX0_takeBack, cX0_takeBack, 2, (some .boolean), 0, cd_X0_takeBack) := rfl
abbrev k_X0_forgetAll : Nat := 3
theorem mt_X0_forgetAll : MT 3 = some (yX0_forgetAll, cX0_forgetAll, 1, none, 0, cd_X0_forgetAll) := rfl
abbrev k_X1_init : Nat := 4
theorem mt_X1_init : MT 4 = some (yX1_init, cX1_init, 1, none, 1, cd_X1_init) := rfl
abbrev k_X1_begin : Nat := 5
theorem mt_X1_begin : MT 5 = some (yX1_begin, cX1_begin, 4, none, 1, cd_X1_begin) := rfl
abbrev k_X1_takeOver : Nat := 6
theorem mt_X1_takeOver : MT 6 = some (yX1_takeOver, cX1_takeOver, 2, none, 1, cd_X1_takeOver) := rfl
abbrev k_X1_end : Nat := 7
theorem mt_X1_end : MT 7 = some (yX1_end, cX1_end, 3, none, 1, cd_X1_end) := rfl
abbrev k_X1_isEnded : Nat := 8
theorem mt_X1_isEnded : MT 8 = some (yX1_isEnded, cX1_isEnded, 1, (some .boolean), 1, cd_X1_isEnded) := rfl
abbrev k_X1_weight : Nat := 9
theorem mt_X1_weight : MT 9 = some (yX1_weight, cX1_weight, 1, (some .int), 1, cd_X1_weight) := rfl
abbrev k_X1_byTaste : Nat := 10
theorem mt_X1_byTaste : MT 10 = some (yX1_byTaste, cX1_byTaste, 8, (some .int), 1, cd_X1_byTaste) := rfl
abbrev k_X1_causeKind : Nat := 11
theorem mt_X1_causeKind : MT 11 = some (yX1_causeKind, cX1_causeKind, 2, (some .int), 1, cd_X1_causeKind) := rfl
abbrev k_X1_causeNumber : Nat := 12
theorem mt_X1_causeNumber : MT 12 = some (yX1_causeNumber, cX1_causeNumber, 2, (some .int), 1, cd_X1_causeNumber) := rfl
abbrev k_X2_init : Nat := 13
theorem mt_X2_init : MT 13 = some (yX2_init, cX2_init, 2, none, 2, cd_X2_init) := rfl
abbrev k_X2_begin : Nat := 14
theorem mt_X2_begin : MT 14 = some (yX2_begin, cX2_begin, 5, none, 2, cd_X2_begin) := rfl
abbrev k_X2_takeOver : Nat := 15
theorem mt_X2_takeOver : MT 15 = some (yX2_takeOver, cX2_takeOver, 3, none, 2, cd_X2_takeOver) := rfl
abbrev k_X2_isLaid : Nat := 16
theorem mt_X2_isLaid : MT 16 = some (yX2_isLaid, cX2_isLaid, 1, (some .boolean), 2, cd_X2_isLaid) := rfl
abbrev k_X2_isLetter : Nat := 17
theorem mt_X2_isLetter : MT 17 = some (yX2_isLetter, cX2_isLetter, 2, (some .boolean), 2, cd_X2_isLetter) := rfl
abbrev k_X2_isFull : Nat := 18
theorem mt_X2_isFull : MT 18 = some (yX2_isFull, cX2_isFull, 1, (some .boolean), 2, cd_X2_isFull) := rfl
abbrev k_X2_add : Nat := 19
theorem mt_X2_add : MT 19 = some (yX2_add, cX2_add, 4, (some .int), 2, cd_X2_add) := rfl
abbrev k_X2_isGolden : Nat := 20
theorem mt_X2_isGolden : MT 20 = some (yX2_isGolden, cX2_isGolden, 2, (some .boolean), 2, cd_X2_isGolden) := rfl
abbrev k_X2_goldenSpot : Nat := 21
theorem mt_X2_goldenSpot : MT 21 = some (yX2_goldenSpot, cX2_goldenSpot, 3, (some .int), 2, cd_X2_goldenSpot) := rfl
abbrev k_X2_makeGolden : Nat := 22
theorem mt_X2_makeGolden : MT 22 = some (yX2_makeGolden, cX2_makeGolden, 4, none, 2, cd_X2_makeGolden) := rfl
abbrev k_X2_dropGolden : Nat := 23
theorem mt_X2_dropGolden : MT 23 = some (yX2_dropGolden, cX2_dropGolden, 4, none, 2, cd_X2_dropGolden) := rfl
abbrev k_X2_theGoldenOne : Nat := 24
theorem mt_X2_theGoldenOne : MT 24 = some (yX2_theGoldenOne, cX2_theGoldenOne, 2, (some .int), 2, cd_X2_theGoldenOne) := rfl
abbrev k_X2_nearPorts : Nat := 25
theorem mt_X2_nearPorts : MT 25 = some (yX2_nearPorts, cX2_nearPorts, 3, (some .int), 2, cd_X2_nearPorts) := rfl
abbrev k_X2_deliver : Nat := 26
theorem mt_X2_deliver : MT 26 = some (yX2_deliver, cX2_deliver, 2, none, 2, cd_X2_deliver) := rfl
abbrev k_X2_loseOld : Nat := 27
theorem mt_X2_loseOld : MT 27 = some (yX2_loseOld, cX2_loseOld, 2, none, 2, cd_X2_loseOld) := rfl
abbrev k_X2_loseOverrun : Nat := 28
theorem mt_X2_loseOverrun : MT 28 = some (yX2_loseOverrun, cX2_loseOverrun, 3, none, 2, cd_X2_loseOverrun) := rfl
abbrev k_X2_countOf : Nat := 29
theorem mt_X2_countOf : MT 29 = some (yX2_countOf, cX2_countOf, 4, (some .int), 2, cd_X2_countOf) := rfl
abbrev k_X2_countAt : Nat := 30
theorem mt_X2_countAt : MT 30 = some (yX2_countAt, cX2_countAt, 5, (some .int), 2, cd_X2_countAt) := rfl
abbrev k_X2_deliveredAt : Nat := 31
theorem mt_X2_deliveredAt : MT 31 = some (yX2_deliveredAt, cX2_deliveredAt, 4, (some .int), 2, cd_X2_deliveredAt) := rfl
abbrev k_X2_waitingAt : Nat := 32
theorem mt_X2_waitingAt : MT 32 = some (yX2_waitingAt, cX2_waitingAt, 5, (some .int), 2, cd_X2_waitingAt) := rfl
abbrev k_X2_isOver : Nat := 33
theorem mt_X2_isOver : MT 33 = some (yX2_isOver, cX2_isOver, 1, (some .boolean), 2, cd_X2_isOver) := rfl
abbrev k_X2_canStir : Nat := 34
theorem mt_X2_canStir : MT 34 = some (yX2_canStir, cX2_canStir, 3, (some .boolean), 2, cd_X2_canStir) := rfl
abbrev k_X2_allAsides : Nat := 35
theorem mt_X2_allAsides : MT 35 = some (yX2_allAsides, cX2_allAsides, 3, (some .int), 2, cd_X2_allAsides) := rfl
abbrev k_X2_allAges : Nat := 36
theorem mt_X2_allAges : MT 36 = some (yX2_allAges, cX2_allAges, 3, (some .int), 2, cd_X2_allAges) := rfl
abbrev k_X2_greatestAgeDelivered : Nat := 37
theorem mt_X2_greatestAgeDelivered : MT 37 = some (yX2_greatestAgeDelivered, cX2_greatestAgeDelivered, 3, (some .int), 2, cd_X2_greatestAgeDelivered) := rfl
abbrev k_X2_greatestAsides : Nat := 38
theorem mt_X2_greatestAsides : MT 38 = some (yX2_greatestAsides, cX2_greatestAsides, 3, (some .int), 2, cd_X2_greatestAsides) := rfl
abbrev k_X2_lastEndedSince : Nat := 39
theorem mt_X2_lastEndedSince : MT 39 = some (yX2_lastEndedSince, cX2_lastEndedSince, 5, (some .int), 2, cd_X2_lastEndedSince) := rfl
abbrev k_X3_init : Nat := 40
theorem mt_X3_init : MT 40 = some (yX3_init, cX3_init, 2, none, 3, cd_X3_init) := rfl
abbrev k_X3_imagine : Nat := 41
theorem mt_X3_imagine : MT 41 = some (yX3_imagine, cX3_imagine, 2, none, 3, cd_X3_imagine) := rfl
abbrev k_X3_letGo : Nat := 42
theorem mt_X3_letGo : MT 42 = some (yX3_letGo, cX3_letGo, 3, (some .int), 3, cd_X3_letGo) := rfl
abbrev k_X3_journey : Nat := 43
theorem mt_X3_journey : MT 43 = some (yX3_journey, cX3_journey, 6, (some .int), 3, cd_X3_journey) := rfl
abbrev k_X3_turnsWithFirstGolden : Nat := 44
theorem mt_X3_turnsWithFirstGolden : MT 44 = some (yX3_turnsWithFirstGolden, cX3_turnsWithFirstGolden, 4, (some .int), 3, cd_X3_turnsWithFirstGolden) := rfl
abbrev k_X3_comesWithout : Nat := 45
theorem mt_X3_comesWithout : MT 45 = some (yX3_comesWithout, cX3_comesWithout, 6, (some .boolean), 3, cd_X3_comesWithout) := rfl
abbrev k_X3_passYears : Nat := 46
theorem mt_X3_passYears : MT 46 = some (yX3_passYears, cX3_passYears, 9, none, 3, cd_X3_passYears) := rfl
abbrev k_X4_init : Nat := 47
theorem mt_X4_init : MT 47 = some (yX4_init, cX4_init, 1, none, 4, cd_X4_init) := rfl
abbrev k_X4_append : Nat := 48
theorem mt_X4_append : MT 48 = some (yX4_append, cX4_append, 2, (some .boolean), 4, cd_X4_append) := rfl
abbrev k_X4_readInto : Nat := 49
theorem mt_X4_readInto : MT 49 = some (yX4_readInto, cX4_readInto, 2, (some .boolean), 4, cd_X4_readInto) := rfl
abbrev k_X4_readHead : Nat := 50
theorem mt_X4_readHead : MT 50 = some (yX4_readHead, cX4_readHead, 5, (some .boolean), 4, cd_X4_readHead) := rfl
abbrev k_X4_readCuts : Nat := 51
theorem mt_X4_readCuts : MT 51 = some (yX4_readCuts, cX4_readCuts, 4, (some .boolean), 4, cd_X4_readCuts) := rfl
abbrev k_X4_readLetters : Nat := 52
theorem mt_X4_readLetters : MT 52 = some (yX4_readLetters, cX4_readLetters, 5, (some .boolean), 4, cd_X4_readLetters) := rfl
abbrev k_X4_kindOf : Nat := 53
theorem mt_X4_kindOf : MT 53 = some (yX4_kindOf, cX4_kindOf, 1, (some .int), 4, cd_X4_kindOf) := rfl
abbrev k_X4_takeSign : Nat := 54
theorem mt_X4_takeSign : MT 54 = some (yX4_takeSign, cX4_takeSign, 2, (some .boolean), 4, cd_X4_takeSign) := rfl
abbrev k_X4_takeNumber : Nat := 55
theorem mt_X4_takeNumber : MT 55 = some (yX4_takeNumber, cX4_takeNumber, 4, (some .boolean), 4, cd_X4_takeNumber) := rfl
abbrev k_X4_isFigure : Nat := 56
theorem mt_X4_isFigure : MT 56 = some (yX4_isFigure, cX4_isFigure, 1, (some .boolean), 4, cd_X4_isFigure) := rfl
abbrev k_X4_fail : Nat := 57
theorem mt_X4_fail : MT 57 = some (yX4_fail, cX4_fail, 3, (some .boolean), 4, cd_X4_fail) := rfl
abbrev k_X5_init : Nat := 58
theorem mt_X5_init : MT 58 = some (yX5_init, cX5_init, 1, none, 5, cd_X5_init) := rfl
abbrev k_X5_decide : Nat := 59
theorem mt_X5_decide : MT 59 = some (yX5_decide, cX5_decide, 2, none, 5, cd_X5_decide) := rfl
abbrev k_X5_moveAll : Nat := 60
theorem mt_X5_moveAll : MT 60 = some (yX5_moveAll, cX5_moveAll, 7, none, 5, cd_X5_moveAll) := rfl
abbrev k_X5_lineUpNow : Nat := 61
theorem mt_X5_lineUpNow : MT 61 = some (yX5_lineUpNow, cX5_lineUpNow, 2, none, 5, cd_X5_lineUpNow) := rfl
abbrev k_X5_inLineAt : Nat := 62
theorem mt_X5_inLineAt : MT 62 = some (yX5_inLineAt, cX5_inLineAt, 6, (some .int), 5, cd_X5_inLineAt) := rfl
abbrev k_X5_lineUp : Nat := 63
theorem mt_X5_lineUp : MT 63 = some (yX5_lineUp, cX5_lineUp, 5, none, 5, cd_X5_lineUp) := rfl
abbrev k_X5_claimOf : Nat := 64
theorem mt_X5_claimOf : MT 64 = some (yX5_claimOf, cX5_claimOf, 3, (some .int), 5, cd_X5_claimOf) := rfl
abbrev k_X5_deliverFirsts : Nat := 65
theorem mt_X5_deliverFirsts : MT 65 = some (yX5_deliverFirsts, cX5_deliverFirsts, 4, none, 5, cd_X5_deliverFirsts) := rfl
abbrev k_X5_loseOldOnes : Nat := 66
theorem mt_X5_loseOldOnes : MT 66 = some (yX5_loseOldOnes, cX5_loseOldOnes, 4, none, 5, cd_X5_loseOldOnes) := rfl
abbrev k_X5_loseTooMany : Nat := 67
theorem mt_X5_loseTooMany : MT 67 = some (yX5_loseTooMany, cX5_loseTooMany, 4, none, 5, cd_X5_loseTooMany) := rfl
abbrev k_X5_putIn : Nat := 68
theorem mt_X5_putIn : MT 68 = some (yX5_putIn, cX5_putIn, 4, none, 5, cd_X5_putIn) := rfl
abbrev k_X5_givePorts : Nat := 69
theorem mt_X5_givePorts : MT 69 = some (yX5_givePorts, cX5_givePorts, 3, none, 5, cd_X5_givePorts) := rfl
abbrev k_X5_takePort : Nat := 70
theorem mt_X5_takePort : MT 70 = some (yX5_takePort, cX5_takePort, 6, none, 5, cd_X5_takePort) := rfl
abbrev k_X5_leastOf : Nat := 71
theorem mt_X5_leastOf : MT 71 = some (yX5_leastOf, cX5_leastOf, 2, (some .int), 5, cd_X5_leastOf) := rfl
abbrev k_X5_seatAll : Nat := 72
theorem mt_X5_seatAll : MT 72 = some (yX5_seatAll, cX5_seatAll, 6, none, 5, cd_X5_seatAll) := rfl
abbrev k_X5_goToHalls : Nat := 73
theorem mt_X5_goToHalls : MT 73 = some (yX5_goToHalls, cX5_goToHalls, 6, none, 5, cd_X5_goToHalls) := rfl
abbrev k_X5_leaveHalls : Nat := 74
theorem mt_X5_leaveHalls : MT 74 = some (yX5_leaveHalls, cX5_leaveHalls, 7, none, 5, cd_X5_leaveHalls) := rfl
abbrev k_X5_higher : Nat := 75
theorem mt_X5_higher : MT 75 = some (yX5_higher, cX5_higher, 3, (some .int), 5, cd_X5_higher) := rfl
abbrev k_X5_wish : Nat := 76
theorem mt_X5_wish : MT 76 = some (yX5_wish, cX5_wish, 4, (some .int), 5, cd_X5_wish) := rfl
abbrev k_X6_init : Nat := 77
theorem mt_X6_init : MT 77 = some (yX6_init, cX6_init, 1, none, 6, cd_X6_init) := rfl
abbrev k_X6_lay : Nat := 78
theorem mt_X6_lay : MT 78 = some (yX6_lay, cX6_lay, 11, none, 6, cd_X6_lay) := rfl
abbrev k_X6_within : Nat := 79
theorem mt_X6_within : MT 79 = some (yX6_within, cX6_within, 3, (some .int), 6, cd_X6_within) := rfl
abbrev k_X6_layPort : Nat := 80
theorem mt_X6_layPort : MT 80 = some (yX6_layPort, cX6_layPort, 4, none, 6, cd_X6_layPort) := rfl
abbrev k_X6_takeOver : Nat := 81
theorem mt_X6_takeOver : MT 81 = some (yX6_takeOver, cX6_takeOver, 2, none, 6, cd_X6_takeOver) := rfl
abbrev k_X6_isNode : Nat := 82
theorem mt_X6_isNode : MT 82 = some (yX6_isNode, cX6_isNode, 2, (some .boolean), 6, cd_X6_isNode) := rfl
abbrev k_X6_isLaidLink : Nat := 83
theorem mt_X6_isLaidLink : MT 83 = some (yX6_isLaidLink, cX6_isLaidLink, 3, (some .boolean), 6, cd_X6_isLaidLink) := rfl
abbrev k_X6_isLink : Nat := 84
theorem mt_X6_isLink : MT 84 = some (yX6_isLink, cX6_isLink, 3, (some .boolean), 6, cd_X6_isLink) := rfl
abbrev k_X6_linksOf : Nat := 85
theorem mt_X6_linksOf : MT 85 = some (yX6_linksOf, cX6_linksOf, 2, (some .int), 6, cd_X6_linksOf) := rfl
abbrev k_X6_linkCount : Nat := 86
theorem mt_X6_linkCount : MT 86 = some (yX6_linkCount, cX6_linkCount, 3, (some .int), 6, cd_X6_linkCount) := rfl
abbrev k_X6_swapsAt : Nat := 87
theorem mt_X6_swapsAt : MT 87 = some (yX6_swapsAt, cX6_swapsAt, 2, (some .boolean), 6, cd_X6_swapsAt) := rfl
abbrev k_X6_portAcross : Nat := 88
theorem mt_X6_portAcross : MT 88 = some (yX6_portAcross, cX6_portAcross, 1, (some .int), 6, cd_X6_portAcross) := rfl
abbrev k_X6_nodeBeyond : Nat := 89
theorem mt_X6_nodeBeyond : MT 89 = some (yX6_nodeBeyond, cX6_nodeBeyond, 3, (some .int), 6, cd_X6_nodeBeyond) := rfl
abbrev k_X6_sever : Nat := 90
theorem mt_X6_sever : MT 90 = some (yX6_sever, cX6_sever, 4, none, 6, cd_X6_sever) := rfl
abbrev k_X6_rejoin : Nat := 91
theorem mt_X6_rejoin : MT 91 = some (yX6_rejoin, cX6_rejoin, 3, none, 6, cd_X6_rejoin) := rfl
abbrev k_X6_measure : Nat := 92
theorem mt_X6_measure : MT 92 = some (yX6_measure, cX6_measure, 2, none, 6, cd_X6_measure) := rfl
abbrev k_X6_flood : Nat := 93
theorem mt_X6_flood : MT 93 = some (yX6_flood, cX6_flood, 9, none, 6, cd_X6_flood) := rfl
abbrev k_X6_distance : Nat := 94
theorem mt_X6_distance : MT 94 = some (yX6_distance, cX6_distance, 3, (some .int), 6, cd_X6_distance) := rfl
abbrev k_X6_portsTowards : Nat := 95
theorem mt_X6_portsTowards : MT 95 = some (yX6_portsTowards, cX6_portsTowards, 6, (some .int), 6, cd_X6_portsTowards) := rfl
abbrev k_X6_isLesserEnd : Nat := 96
theorem mt_X6_isLesserEnd : MT 96 = some (yX6_isLesserEnd, cX6_isLesserEnd, 4, (some .boolean), 6, cd_X6_isLesserEnd) := rfl
abbrev k_X6_parts : Nat := 97
theorem mt_X6_parts : MT 97 = some (yX6_parts, cX6_parts, 3, (some .boolean), 6, cd_X6_parts) := rfl
abbrev k_X7_init : Nat := 98
theorem mt_X7_init : MT 98 = some (yX7_init, cX7_init, 2, none, 7, cd_X7_init) := rfl
abbrev k_X7_feed : Nat := 99
theorem mt_X7_feed : MT 99 = some (yX7_feed, cX7_feed, 2, (some .int), 7, cd_X7_feed) := rfl
abbrev k_X7_net : Nat := 100
theorem mt_X7_net : MT 100 = some (yX7_net, cX7_net, 2, (some .int), 7, cd_X7_net) := rfl
abbrev k_X7_fault : Nat := 101
theorem mt_X7_fault : MT 101 = some (yX7_fault, cX7_fault, 1, (some .int), 7, cd_X7_fault) := rfl
abbrev k_X7_undo : Nat := 102
theorem mt_X7_undo : MT 102 = some (yX7_undo, cX7_undo, 1, (some .int), 7, cd_X7_undo) := rfl
abbrev k_X7_write : Nat := 103
theorem mt_X7_write : MT 103 = some (yX7_write, cX7_write, 4, (some .int), 7, cd_X7_write) := rfl
abbrev k_X7_bless : Nat := 104
theorem mt_X7_bless : MT 104 = some (yX7_bless, cX7_bless, 2, (some .int), 7, cd_X7_bless) := rfl
abbrev k_X7_unbless : Nat := 105
theorem mt_X7_unbless : MT 105 = some (yX7_unbless, cX7_unbless, 2, (some .int), 7, cd_X7_unbless) := rfl
abbrev k_X7_cut : Nat := 106
theorem mt_X7_cut : MT 106 = some (yX7_cut, cX7_cut, 3, (some .int), 7, cd_X7_cut) := rfl
abbrev k_X7_mend : Nat := 107
theorem mt_X7_mend : MT 107 = some (yX7_mend, cX7_mend, 3, (some .int), 7, cd_X7_mend) := rfl
abbrev k_X7_turn : Nat := 108
theorem mt_X7_turn : MT 108 = some (yX7_turn, cX7_turn, 4, (some .int), 7, cd_X7_turn) := rfl
abbrev k_X7_letter : Nat := 109
theorem mt_X7_letter : MT 109 = some (yX7_letter, cX7_letter, 4, (some .int), 7, cd_X7_letter) := rfl
abbrev k_X7_node : Nat := 110
theorem mt_X7_node : MT 110 = some (yX7_node, cX7_node, 3, (some .int), 7, cd_X7_node) := rfl
abbrev k_X7_at : Nat := 111
theorem mt_X7_at : MT 111 = some (yX7_at, cX7_at, 3, (some .int), 7, cd_X7_at) := rfl
abbrev k_X7_box : Nat := 112
theorem mt_X7_box : MT 112 = some (yX7_box, cX7_box, 3, (some .int), 7, cd_X7_box) := rfl
abbrev k_X7_rank : Nat := 113
theorem mt_X7_rank : MT 113 = some (yX7_rank, cX7_rank, 2, (some .int), 7, cd_X7_rank) := rfl
abbrev k_X7_golden : Nat := 114
theorem mt_X7_golden : MT 114 = some (yX7_golden, cX7_golden, 2, (some .int), 7, cd_X7_golden) := rfl
abbrev k_X7_log : Nat := 115
theorem mt_X7_log : MT 115 = some (yX7_log, cX7_log, 2, (some .int), 7, cd_X7_log) := rfl
abbrev k_X7_sums : Nat := 116
theorem mt_X7_sums : MT 116 = some (yX7_sums, cX7_sums, 2, (some .int), 7, cd_X7_sums) := rfl
abbrev k_X7_far : Nat := 117
theorem mt_X7_far : MT 117 = some (yX7_far, cX7_far, 3, (some .int), 7, cd_X7_far) := rfl
abbrev k_X7_near : Nat := 118
theorem mt_X7_near : MT 118 = some (yX7_near, cX7_near, 3, (some .int), 7, cd_X7_near) := rfl
abbrev k_X7_why : Nat := 119
theorem mt_X7_why : MT 119 = some (yX7_why, cX7_why, 5, (some .int), 7, cd_X7_why) := rfl
abbrev k_X7_next : Nat := 120
theorem mt_X7_next : MT 120 = some (yX7_next, cX7_next, 2, (some .int), 7, cd_X7_next) := rfl
abbrev k_X7_ends : Nat := 121
theorem mt_X7_ends : MT 121 = some (yX7_ends, cX7_ends, 3, (some .int), 7, cd_X7_ends) := rfl
abbrev k_X7_arrives : Nat := 122
theorem mt_X7_arrives : MT 122 = some (yX7_arrives, cX7_arrives, 3, (some .int), 7, cd_X7_arrives) := rfl
abbrev k_X7_worst : Nat := 123
theorem mt_X7_worst : MT 123 = some (yX7_worst, cX7_worst, 8, (some .int), 7, cd_X7_worst) := rfl
abbrev k_X7_help : Nat := 124
theorem mt_X7_help : MT 124 = some (yX7_help, cX7_help, 5, (some .int), 7, cd_X7_help) := rfl
abbrev k_X7_bridges : Nat := 125
theorem mt_X7_bridges : MT 125 = some (yX7_bridges, cX7_bridges, 5, (some .int), 7, cd_X7_bridges) := rfl
abbrev k_X7_odds : Nat := 126
theorem mt_X7_odds : MT 126 = some (yX7_odds, cX7_odds, 13, (some .long), 7, cd_X7_odds) := rfl
abbrev k_X7_drawn : Nat := 127
theorem mt_X7_drawn : MT 127 = some (yX7_drawn, cX7_drawn, 5, (some .int), 7, cd_X7_drawn) := rfl
abbrev k_X7_image : Nat := 128
theorem mt_X7_image : MT 128 = some (yX7_image, cX7_image, 2, (some .int), 7, cd_X7_image) := rfl
abbrev k_X7_restore : Nat := 129
theorem mt_X7_restore : MT 129 = some (yX7_restore, cX7_restore, 2, (some .int), 7, cd_X7_restore) := rfl
abbrev k_X7_count : Nat := 130
theorem mt_X7_count : MT 130 = some (yX7_count, cX7_count, 2, (some .int), 7, cd_X7_count) := rfl
abbrev k_X7_isKind : Nat := 131
theorem mt_X7_isKind : MT 131 = some (yX7_isKind, cX7_isKind, 1, (some .boolean), 7, cd_X7_isKind) := rfl
abbrev k_X7_casesOf : Nat := 132
theorem mt_X7_casesOf : MT 132 = some (yX7_casesOf, cX7_casesOf, 6, (some .long), 7, cd_X7_casesOf) := rfl
abbrev k_X7_commonDivisor : Nat := 133
theorem mt_X7_commonDivisor : MT 133 = some (yX7_commonDivisor, cX7_commonDivisor, 11, (some .long), 7, cd_X7_commonDivisor) := rfl
abbrev k_X8_init : Nat := 134
theorem mt_X8_init : MT 134 = some (yX8_init, cX8_init, 1, none, 8, cd_X8_init) := rfl
abbrev k_X8_in : Nat := 135
theorem mt_X8_in : MT 135 = some (yX8_in, cX8_in, 6, (some .boolean), 8, cd_X8_in) := rfl
abbrev k_X8_has : Nat := 136
theorem mt_X8_has : MT 136 = some (yX8_has, cX8_has, 2, (some .boolean), 8, cd_X8_has) := rfl
abbrev k_X8_ones : Nat := 137
theorem mt_X8_ones : MT 137 = some (yX8_ones, cX8_ones, 1, (some .int), 8, cd_X8_ones) := rfl
abbrev k_X8_copies : Nat := 138
theorem mt_X8_copies : MT 138 = some (yX8_copies, cX8_copies, 5, none, 8, cd_X8_copies) := rfl
abbrev k_X8_tries : Nat := 139
theorem mt_X8_tries : MT 139 = some (yX8_tries, cX8_tries, 1, none, 8, cd_X8_tries) := rfl
abbrev k_X8_nodes : Nat := 140
theorem mt_X8_nodes : MT 140 = some (yX8_nodes, cX8_nodes, 1, (some .int), 8, cd_X8_nodes) := rfl
abbrev k_X8_isNet : Nat := 141
theorem mt_X8_isNet : MT 141 = some (yX8_isNet, cX8_isNet, 1, (some .boolean), 8, cd_X8_isNet) := rfl
abbrev k_X8_isNode : Nat := 142
theorem mt_X8_isNode : MT 142 = some (yX8_isNode, cX8_isNode, 2, (some .boolean), 8, cd_X8_isNode) := rfl
abbrev k_X8_isPort : Nat := 143
theorem mt_X8_isPort : MT 143 = some (yX8_isPort, cX8_isPort, 5, (some .boolean), 8, cd_X8_isPort) := rfl
abbrev k_X8_beyond : Nat := 144
theorem mt_X8_beyond : MT 144 = some (yX8_beyond, cX8_beyond, 7, (some .int), 8, cd_X8_beyond) := rfl
abbrev k_X8_isLink : Nat := 145
theorem mt_X8_isLink : MT 145 = some (yX8_isLink, cX8_isLink, 3, (some .boolean), 8, cd_X8_isLink) := rfl
abbrev k_X8_across : Nat := 146
theorem mt_X8_across : MT 146 = some (yX8_across, cX8_across, 1, (some .int), 8, cd_X8_across) := rfl
abbrev k_X8_cuts : Nat := 147
theorem mt_X8_cuts : MT 147 = some (yX8_cuts, cX8_cuts, 4, none, 8, cd_X8_cuts) := rfl
abbrev k_X8_manyLinks : Nat := 148
theorem mt_X8_manyLinks : MT 148 = some (yX8_manyLinks, cX8_manyLinks, 3, (some .int), 8, cd_X8_manyLinks) := rfl
abbrev k_X8_measures : Nat := 149
theorem mt_X8_measures : MT 149 = some (yX8_measures, cX8_measures, 6, none, 8, cd_X8_measures) := rfl
abbrev k_X8_nears : Nat := 150
theorem mt_X8_nears : MT 150 = some (yX8_nears, cX8_nears, 6, (some .boolean), 8, cd_X8_nears) := rfl
abbrev k_X8_of : Nat := 151
theorem mt_X8_of : MT 151 = some (yX8_of, cX8_of, 3, (some .int), 8, cd_X8_of) := rfl
abbrev k_X8_is : Nat := 152
theorem mt_X8_is : MT 152 = some (yX8_is, cX8_is, 4, none, 8, cd_X8_is) := rfl
abbrev k_X8_adds : Nat := 153
theorem mt_X8_adds : MT 153 = some (yX8_adds, cX8_adds, 6, none, 8, cd_X8_adds) := rfl
abbrev k_X8_weight : Nat := 154
theorem mt_X8_weight : MT 154 = some (yX8_weight, cX8_weight, 4, (some .int), 8, cd_X8_weight) := rfl
abbrev k_X8_goldenOne : Nat := 155
theorem mt_X8_goldenOne : MT 155 = some (yX8_goldenOne, cX8_goldenOne, 3, (some .int), 8, cd_X8_goldenOne) := rfl
abbrev k_X8_isAhead : Nat := 156
theorem mt_X8_isAhead : MT 156 = some (yX8_isAhead, cX8_isAhead, 4, (some .boolean), 8, cd_X8_isAhead) := rfl
abbrev k_X8_sorts : Nat := 157
theorem mt_X8_sorts : MT 157 = some (yX8_sorts, cX8_sorts, 5, none, 8, cd_X8_sorts) := rfl
abbrev k_X8_taste : Nat := 158
theorem mt_X8_taste : MT 158 = some (yX8_taste, cX8_taste, 5, (some .int), 8, cd_X8_taste) := rfl
abbrev k_X8_isNear : Nat := 159
theorem mt_X8_isNear : MT 159 = some (yX8_isNear, cX8_isNear, 6, (some .boolean), 8, cd_X8_isNear) := rfl
abbrev k_X8_isHere : Nat := 160
theorem mt_X8_isHere : MT 160 = some (yX8_isHere, cX8_isHere, 3, (some .boolean), 8, cd_X8_isHere) := rfl
abbrev k_X8_manyHere : Nat := 161
theorem mt_X8_manyHere : MT 161 = some (yX8_manyHere, cX8_manyHere, 4, (some .int), 8, cd_X8_manyHere) := rfl
abbrev k_X8_goldenAt : Nat := 162
theorem mt_X8_goldenAt : MT 162 = some (yX8_goldenAt, cX8_goldenAt, 4, (some .int), 8, cd_X8_goldenAt) := rfl
abbrev k_X8_dulls : Nat := 163
theorem mt_X8_dulls : MT 163 = some (yX8_dulls, cX8_dulls, 4, none, 8, cd_X8_dulls) := rfl
abbrev k_X8_finishes : Nat := 164
theorem mt_X8_finishes : MT 164 = some (yX8_finishes, cX8_finishes, 3, none, 8, cd_X8_finishes) := rfl
abbrev k_X8_loses : Nat := 165
theorem mt_X8_loses : MT 165 = some (yX8_loses, cX8_loses, 4, none, 8, cd_X8_loses) := rfl
abbrev k_X8_delivers : Nat := 166
theorem mt_X8_delivers : MT 166 = some (yX8_delivers, cX8_delivers, 5, none, 8, cd_X8_delivers) := rfl
abbrev k_X8_wears : Nat := 167
theorem mt_X8_wears : MT 167 = some (yX8_wears, cX8_wears, 5, none, 8, cd_X8_wears) := rfl
abbrev k_X8_firstIn : Nat := 168
theorem mt_X8_firstIn : MT 168 = some (yX8_firstIn, cX8_firstIn, 5, (some .int), 8, cd_X8_firstIn) := rfl
abbrev k_X8_putsIn : Nat := 169
theorem mt_X8_putsIn : MT 169 = some (yX8_putsIn, cX8_putsIn, 3, none, 8, cd_X8_putsIn) := rfl
abbrev k_X8_takes : Nat := 170
theorem mt_X8_takes : MT 170 = some (yX8_takes, cX8_takes, 8, none, 8, cd_X8_takes) := rfl
abbrev k_X8_wish : Nat := 171
theorem mt_X8_wish : MT 171 = some (yX8_wish, cX8_wish, 8, (some .int), 8, cd_X8_wish) := rfl
abbrev k_X8_firstOf : Nat := 172
theorem mt_X8_firstOf : MT 172 = some (yX8_firstOf, cX8_firstOf, 5, (some .int), 8, cd_X8_firstOf) := rfl
abbrev k_X8_swaps : Nat := 173
theorem mt_X8_swaps : MT 173 = some (yX8_swaps, cX8_swaps, 11, none, 8, cd_X8_swaps) := rfl
abbrev k_X8_ports : Nat := 174
theorem mt_X8_ports : MT 174 = some (yX8_ports, cX8_ports, 9, none, 8, cd_X8_ports) := rfl
abbrev k_X8_moves : Nat := 175
theorem mt_X8_moves : MT 175 = some (yX8_moves, cX8_moves, 6, none, 8, cd_X8_moves) := rfl
abbrev k_X8_turns : Nat := 176
theorem mt_X8_turns : MT 176 = some (yX8_turns, cX8_turns, 4, none, 8, cd_X8_turns) := rfl
abbrev k_X8_isGoing : Nat := 177
theorem mt_X8_isGoing : MT 177 = some (yX8_isGoing, cX8_isGoing, 3, (some .boolean), 8, cd_X8_isGoing) := rfl
abbrev k_X8_letsGo : Nat := 178
theorem mt_X8_letsGo : MT 178 = some (yX8_letsGo, cX8_letsGo, 3, (some .int), 8, cd_X8_letsGo) := rfl
abbrev k_X8_byteAt : Nat := 179
theorem mt_X8_byteAt : MT 179 = some (yX8_byteAt, cX8_byteAt, 2, (some .int), 8, cd_X8_byteAt) := rfl
abbrev k_X8_reads : Nat := 180
theorem mt_X8_reads : MT 180 = some (yX8_reads, cX8_reads, 2, none, 8, cd_X8_reads) := rfl
abbrev k_X8_bad : Nat := 181
theorem mt_X8_bad : MT 181 = some (yX8_bad, cX8_bad, 2, none, 8, cd_X8_bad) := rfl
abbrev k_X8_goesOn : Nat := 182
theorem mt_X8_goesOn : MT 182 = some (yX8_goesOn, cX8_goesOn, 1, none, 8, cd_X8_goesOn) := rfl
abbrev k_X8_number : Nat := 183
theorem mt_X8_number : MT 183 = some (yX8_number, cX8_number, 4, (some .int), 8, cd_X8_number) := rfl
abbrev k_X8_sign : Nat := 184
theorem mt_X8_sign : MT 184 = some (yX8_sign, cX8_sign, 2, none, 8, cd_X8_sign) := rfl
abbrev k_X8_isLetter : Nat := 185
theorem mt_X8_isLetter : MT 185 = some (yX8_isLetter, cX8_isLetter, 2, (some .boolean), 8, cd_X8_isLetter) := rfl
abbrev k_X8_sort : Nat := 186
theorem mt_X8_sort : MT 186 = some (yX8_sort, cX8_sort, 1, (some .int), 8, cd_X8_sort) := rfl
abbrev k_X8_readsCut : Nat := 187
theorem mt_X8_readsCut : MT 187 = some (yX8_readsCut, cX8_readsCut, 3, none, 8, cd_X8_readsCut) := rfl
abbrev k_X8_readsLetter : Nat := 188
theorem mt_X8_readsLetter : MT 188 = some (yX8_readsLetter, cX8_readsLetter, 4, none, 8, cd_X8_readsLetter) := rfl
abbrev k_X8_laysLinks : Nat := 189
theorem mt_X8_laysLinks : MT 189 = some (yX8_laysLinks, cX8_laysLinks, 3, none, 8, cd_X8_laysLinks) := rfl
abbrev k_X8_feed : Nat := 190
theorem mt_X8_feed : MT 190 = some (yX8_feed, cX8_feed, 2, (some .int), 8, cd_X8_feed) := rfl
abbrev k_X8_net : Nat := 191
theorem mt_X8_net : MT 191 = some (yX8_net, cX8_net, 2, (some .int), 8, cd_X8_net) := rfl
abbrev k_X8_fault : Nat := 192
theorem mt_X8_fault : MT 192 = some (yX8_fault, cX8_fault, 1, (some .int), 8, cd_X8_fault) := rfl
abbrev k_X8_notes : Nat := 193
theorem mt_X8_notes : MT 193 = some (yX8_notes, cX8_notes, 2, none, 8, cd_X8_notes) := rfl
abbrev k_X8_undo : Nat := 194
theorem mt_X8_undo : MT 194 = some (yX8_undo, cX8_undo, 1, (some .int), 8, cd_X8_undo) := rfl
abbrev k_X8_isLetterThere : Nat := 195
theorem mt_X8_isLetterThere : MT 195 = some (yX8_isLetterThere, cX8_isLetterThere, 2, (some .boolean), 8, cd_X8_isLetterThere) := rfl
abbrev k_X8_write : Nat := 196
theorem mt_X8_write : MT 196 = some (yX8_write, cX8_write, 4, (some .int), 8, cd_X8_write) := rfl
abbrev k_X8_bless : Nat := 197
theorem mt_X8_bless : MT 197 = some (yX8_bless, cX8_bless, 2, (some .int), 8, cd_X8_bless) := rfl
abbrev k_X8_unbless : Nat := 198
theorem mt_X8_unbless : MT 198 = some (yX8_unbless, cX8_unbless, 2, (some .int), 8, cd_X8_unbless) := rfl
abbrev k_X8_isPortThere : Nat := 199
theorem mt_X8_isPortThere : MT 199 = some (yX8_isPortThere, cX8_isPortThere, 3, (some .boolean), 8, cd_X8_isPortThere) := rfl
abbrev k_X8_cut : Nat := 200
theorem mt_X8_cut : MT 200 = some (yX8_cut, cX8_cut, 3, (some .int), 8, cd_X8_cut) := rfl
abbrev k_X8_mend : Nat := 201
theorem mt_X8_mend : MT 201 = some (yX8_mend, cX8_mend, 3, (some .int), 8, cd_X8_mend) := rfl
abbrev k_X8_turn : Nat := 202
theorem mt_X8_turn : MT 202 = some (yX8_turn, cX8_turn, 4, (some .int), 8, cd_X8_turn) := rfl
abbrev k_X8_letter : Nat := 203
theorem mt_X8_letter : MT 203 = some (yX8_letter, cX8_letter, 4, (some .int), 8, cd_X8_letter) := rfl
abbrev k_X8_waitingAt : Nat := 204
theorem mt_X8_waitingAt : MT 204 = some (yX8_waitingAt, cX8_waitingAt, 3, (some .int), 8, cd_X8_waitingAt) := rfl
abbrev k_X8_deliveredAt : Nat := 205
theorem mt_X8_deliveredAt : MT 205 = some (yX8_deliveredAt, cX8_deliveredAt, 4, (some .int), 8, cd_X8_deliveredAt) := rfl
abbrev k_X8_node : Nat := 206
theorem mt_X8_node : MT 206 = some (yX8_node, cX8_node, 3, (some .int), 8, cd_X8_node) := rfl
abbrev k_X8_at : Nat := 207
theorem mt_X8_at : MT 207 = some (yX8_at, cX8_at, 5, (some .int), 8, cd_X8_at) := rfl
abbrev k_X8_box : Nat := 208
theorem mt_X8_box : MT 208 = some (yX8_box, cX8_box, 3, (some .int), 8, cd_X8_box) := rfl
abbrev k_X8_rank : Nat := 209
theorem mt_X8_rank : MT 209 = some (yX8_rank, cX8_rank, 2, (some .int), 8, cd_X8_rank) := rfl
abbrev k_X8_golden : Nat := 210
theorem mt_X8_golden : MT 210 = some (yX8_golden, cX8_golden, 2, (some .int), 8, cd_X8_golden) := rfl
abbrev k_X8_log : Nat := 211
theorem mt_X8_log : MT 211 = some (yX8_log, cX8_log, 2, (some .int), 8, cd_X8_log) := rfl
abbrev k_X8_lost : Nat := 212
theorem mt_X8_lost : MT 212 = some (yX8_lost, cX8_lost, 3, (some .int), 8, cd_X8_lost) := rfl
abbrev k_X8_all : Nat := 213
theorem mt_X8_all : MT 213 = some (yX8_all, cX8_all, 4, (some .int), 8, cd_X8_all) := rfl
abbrev k_X8_oldest : Nat := 214
theorem mt_X8_oldest : MT 214 = some (yX8_oldest, cX8_oldest, 4, (some .int), 8, cd_X8_oldest) := rfl
abbrev k_X8_sums : Nat := 215
theorem mt_X8_sums : MT 215 = some (yX8_sums, cX8_sums, 2, (some .int), 8, cd_X8_sums) := rfl
abbrev k_X8_far : Nat := 216
theorem mt_X8_far : MT 216 = some (yX8_far, cX8_far, 3, (some .int), 8, cd_X8_far) := rfl
abbrev k_X8_near : Nat := 217
theorem mt_X8_near : MT 217 = some (yX8_near, cX8_near, 6, (some .int), 8, cd_X8_near) := rfl
abbrev k_X8_why : Nat := 218
theorem mt_X8_why : MT 218 = some (yX8_why, cX8_why, 5, (some .int), 8, cd_X8_why) := rfl
abbrev k_X8_next : Nat := 219
theorem mt_X8_next : MT 219 = some (yX8_next, cX8_next, 2, (some .int), 8, cd_X8_next) := rfl
abbrev k_X8_last : Nat := 220
theorem mt_X8_last : MT 220 = some (yX8_last, cX8_last, 5, (some .int), 8, cd_X8_last) := rfl
abbrev k_X8_greatestAsides : Nat := 221
theorem mt_X8_greatestAsides : MT 221 = some (yX8_greatestAsides, cX8_greatestAsides, 3, (some .int), 8, cd_X8_greatestAsides) := rfl
abbrev k_X8_ends : Nat := 222
theorem mt_X8_ends : MT 222 = some (yX8_ends, cX8_ends, 3, (some .int), 8, cd_X8_ends) := rfl
abbrev k_X8_arrives : Nat := 223
theorem mt_X8_arrives : MT 223 = some (yX8_arrives, cX8_arrives, 3, (some .int), 8, cd_X8_arrives) := rfl
abbrev k_X8_takesTill : Nat := 224
theorem mt_X8_takesTill : MT 224 = some (yX8_takesTill, cX8_takesTill, 3, (some .int), 8, cd_X8_takesTill) := rfl
abbrev k_X8_worst : Nat := 225
theorem mt_X8_worst : MT 225 = some (yX8_worst, cX8_worst, 8, (some .int), 8, cd_X8_worst) := rfl
abbrev k_X8_help : Nat := 226
theorem mt_X8_help : MT 226 = some (yX8_help, cX8_help, 6, (some .int), 8, cd_X8_help) := rfl
abbrev k_X8_reached : Nat := 227
theorem mt_X8_reached : MT 227 = some (yX8_reached, cX8_reached, 4, (some .int), 8, cd_X8_reached) := rfl
abbrev k_X8_bridges : Nat := 228
theorem mt_X8_bridges : MT 228 = some (yX8_bridges, cX8_bridges, 9, (some .int), 8, cd_X8_bridges) := rfl
abbrev k_X8_gcd : Nat := 229
theorem mt_X8_gcd : MT 229 = some (yX8_gcd, cX8_gcd, 10, (some .long), 8, cd_X8_gcd) := rfl
abbrev k_X8_odds : Nat := 230
theorem mt_X8_odds : MT 230 = some (yX8_odds, cX8_odds, 14, (some .long), 8, cd_X8_odds) := rfl
abbrev k_X8_drawn : Nat := 231
theorem mt_X8_drawn : MT 231 = some (yX8_drawn, cX8_drawn, 10, (some .int), 8, cd_X8_drawn) := rfl
abbrev k_X8_image : Nat := 232
theorem mt_X8_image : MT 232 = some (yX8_image, cX8_image, 2, (some .int), 8, cd_X8_image) := rfl
abbrev k_X8_restore : Nat := 233
theorem mt_X8_restore : MT 233 = some (yX8_restore, cX8_restore, 2, (some .int), 8, cd_X8_restore) := rfl
abbrev k_X8_manyAre : Nat := 234
theorem mt_X8_manyAre : MT 234 = some (yX8_manyAre, cX8_manyAre, 4, (some .int), 8, cd_X8_manyAre) := rfl
abbrev k_X8_count : Nat := 235
theorem mt_X8_count : MT 235 = some (yX8_count, cX8_count, 2, (some .int), 8, cd_X8_count) := rfl
abbrev k_J6_bitCount_0f7a4 : Nat := 236
theorem mt_J6_bitCount_0f7a4 : MT 236 = some (yJ6_bitCount_0f7a4, cJ6_bitCount_0f7a4, 1, (some .int), 10, cd_J6_bitCount_0f7a4) := rfl
abbrev k_J7_fill_53178 : Nat := 237
theorem mt_J7_fill_53178 : MT 237 = some (yJ7_fill_53178, cJ7_fill_53178, 4, none, 12, cd_J7_fill_53178) := rfl
