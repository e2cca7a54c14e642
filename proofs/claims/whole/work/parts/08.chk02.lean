theorem ck_X5_putIn : gm_mfb 68 (yX5_putIn, cX5_putIn, 4, none, 5, cd_X5_putIn) 666 67 = true := by decide +kernel
theorem ck_X5_givePorts : gm_mfb 69 (yX5_givePorts, cX5_givePorts, 3, none, 5, cd_X5_givePorts) 670 67 = true := by decide +kernel
theorem ck_X5_takePort : gm_mfb 70 (yX5_takePort, cX5_takePort, 6, none, 5, cd_X5_takePort) 688 67 = true := by decide +kernel
theorem ck_X5_leastOf : gm_mfb 71 (yX5_leastOf, cX5_leastOf, 2, (some .int), 5, cd_X5_leastOf) 699 67 = true := by decide +kernel
theorem ck_X5_seatAll : gm_mfb 72 (yX5_seatAll, cX5_seatAll, 6, none, 5, cd_X5_seatAll) 703 67 = true := by decide +kernel
theorem ck_X5_goToHalls : gm_mfb 73 (yX5_goToHalls, cX5_goToHalls, 6, none, 5, cd_X5_goToHalls) 707 67 = true := by decide +kernel
theorem ck_X5_leaveHalls : gm_mfb 74 (yX5_leaveHalls, cX5_leaveHalls, 7, none, 5, cd_X5_leaveHalls) 719 67 = true := by decide +kernel
theorem ck_X5_higher : gm_mfb 75 (yX5_higher, cX5_higher, 3, (some .int), 5, cd_X5_higher) 711 67 = true := by decide +kernel
theorem ck_X5_wish : gm_mfb 76 (yX5_wish, cX5_wish, 4, (some .int), 5, cd_X5_wish) 715 67 = true := by decide +kernel
theorem ck_X6_init : gm_mfb 77 (yX6_init, cX6_init, 1, none, 6, cd_X6_init) 125 65 = true := by decide +kernel
theorem ck_X6_lay : gm_mfb 78 (yX6_lay, cX6_lay, 11, none, 6, cd_X6_lay) 419 65 = true := by decide +kernel
theorem ck_X6_within : gm_mfb 79 (yX6_within, cX6_within, 3, (some .int), 6, cd_X6_within) 423 65 = true := by decide +kernel
theorem ck_X6_layPort : gm_mfb 80 (yX6_layPort, cX6_layPort, 4, none, 6, cd_X6_layPort) 428 65 = true := by decide +kernel
theorem ck_X6_takeOver : gm_mfb 81 (yX6_takeOver, cX6_takeOver, 2, none, 6, cd_X6_takeOver) 494 65 = true := by decide +kernel
theorem ck_X6_isNode : gm_mfb 82 (yX6_isNode, cX6_isNode, 2, (some .boolean), 6, cd_X6_isNode) 454 65 = true := by decide +kernel
theorem ck_X6_isLaidLink : gm_mfb 83 (yX6_isLaidLink, cX6_isLaidLink, 3, (some .boolean), 6, cd_X6_isLaidLink) 579 65 = true := by decide +kernel
theorem ck_X6_isLink : gm_mfb 84 (yX6_isLink, cX6_isLink, 3, (some .boolean), 6, cd_X6_isLink) 450 65 = true := by decide +kernel
theorem ck_X6_linksOf : gm_mfb 85 (yX6_linksOf, cX6_linksOf, 2, (some .int), 6, cd_X6_linksOf) 657 65 = true := by decide +kernel
theorem ck_X6_linkCount : gm_mfb 86 (yX6_linkCount, cX6_linkCount, 3, (some .int), 6, cd_X6_linkCount) 586 65 = true := by decide +kernel
theorem ck_X6_swapsAt : gm_mfb 87 (yX6_swapsAt, cX6_swapsAt, 2, (some .boolean), 6, cd_X6_swapsAt) 684 65 = true := by decide +kernel
theorem ck_X6_portAcross : gm_mfb 88 (yX6_portAcross, cX6_portAcross, 1, (some .int), 6, cd_X6_portAcross) 462 65 = true := by decide +kernel
theorem ck_X6_nodeBeyond : gm_mfb 89 (yX6_nodeBeyond, cX6_nodeBeyond, 3, (some .int), 6, cd_X6_nodeBeyond) 727 65 = true := by decide +kernel
theorem ck_X6_sever : gm_mfb 90 (yX6_sever, cX6_sever, 4, none, 6, cd_X6_sever) 458 65 = true := by decide +kernel
theorem ck_X6_rejoin : gm_mfb 91 (yX6_rejoin, cX6_rejoin, 3, none, 6, cd_X6_rejoin) 600 65 = true := by decide +kernel
theorem ck_X6_measure : gm_mfb 92 (yX6_measure, cX6_measure, 2, none, 6, cd_X6_measure) 432 65 = true := by decide +kernel
theorem ck_X6_flood : gm_mfb 93 (yX6_flood, cX6_flood, 9, none, 6, cd_X6_flood) 436 65 = true := by decide +kernel
theorem ck_X6_distance : gm_mfb 94 (yX6_distance, cX6_distance, 3, (some .int), 6, cd_X6_distance) 731 65 = true := by decide +kernel
theorem ck_X6_portsTowards : gm_mfb 95 (yX6_portsTowards, cX6_portsTowards, 6, (some .int), 6, cd_X6_portsTowards) 680 65 = true := by decide +kernel
theorem ck_X6_isLesserEnd : gm_mfb 96 (yX6_isLesserEnd, cX6_isLesserEnd, 4, (some .boolean), 6, cd_X6_isLesserEnd) 902 65 = true := by decide +kernel
theorem ck_X6_parts : gm_mfb 97 (yX6_parts, cX6_parts, 3, (some .boolean), 6, cd_X6_parts) 906 65 = true := by decide +kernel
theorem ck_X7_init : gm_mfb 98 (yX7_init, cX7_init, 2, none, 7, cd_X7_init) 79 62 = true := by decide +kernel
theorem ck_X7_feed : gm_mfb 99 (yX7_feed, cX7_feed, 2, (some .int), 7, cd_X7_feed) 378 62 = true := by decide +kernel
theorem ck_X7_net : gm_mfb 100 (yX7_net, cX7_net, 2, (some .int), 7, cd_X7_net) 388 62 = true := by decide +kernel
theorem ck_X7_fault : gm_mfb 101 (yX7_fault, cX7_fault, 1, (some .int), 7, cd_X7_fault) 507 62 = true := by decide +kernel
theorem ck_X7_undo : gm_mfb 102 (yX7_undo, cX7_undo, 1, (some .int), 7, cd_X7_undo) 511 62 = true := by decide +kernel
theorem ck_X7_write : gm_mfb 103 (yX7_write, cX7_write, 4, (some .int), 7, cd_X7_write) 521 62 = true := by decide +kernel
theorem ck_X7_bless : gm_mfb 104 (yX7_bless, cX7_bless, 2, (some .int), 7, cd_X7_bless) 542 62 = true := by decide +kernel
theorem ck_X7_unbless : gm_mfb 105 (yX7_unbless, cX7_unbless, 2, (some .int), 7, cd_X7_unbless) 567 62 = true := by decide +kernel
theorem ck_X7_cut : gm_mfb 106 (yX7_cut, cX7_cut, 3, (some .int), 7, cd_X7_cut) 575 62 = true := by decide +kernel
theorem ck_X7_mend : gm_mfb 107 (yX7_mend, cX7_mend, 3, (some .int), 7, cd_X7_mend) 596 62 = true := by decide +kernel
theorem ck_X7_turn : gm_mfb 108 (yX7_turn, cX7_turn, 4, (some .int), 7, cd_X7_turn) 605 62 = true := by decide +kernel
theorem ck_X7_letter : gm_mfb 109 (yX7_letter, cX7_letter, 4, (some .int), 7, cd_X7_letter) 736 62 = true := by decide +kernel
theorem ck_X7_node : gm_mfb 110 (yX7_node, cX7_node, 3, (some .int), 7, cd_X7_node) 741 62 = true := by decide +kernel
theorem ck_X7_at : gm_mfb 111 (yX7_at, cX7_at, 3, (some .int), 7, cd_X7_at) 753 62 = true := by decide +kernel
theorem ck_X7_box : gm_mfb 112 (yX7_box, cX7_box, 3, (some .int), 7, cd_X7_box) 765 62 = true := by decide +kernel
theorem ck_X7_rank : gm_mfb 113 (yX7_rank, cX7_rank, 2, (some .int), 7, cd_X7_rank) 773 62 = true := by decide +kernel
theorem ck_X7_golden : gm_mfb 114 (yX7_golden, cX7_golden, 2, (some .int), 7, cd_X7_golden) 778 62 = true := by decide +kernel
theorem ck_X7_log : gm_mfb 115 (yX7_log, cX7_log, 2, (some .int), 7, cd_X7_log) 782 62 = true := by decide +kernel
theorem ck_X7_sums : gm_mfb 116 (yX7_sums, cX7_sums, 2, (some .int), 7, cd_X7_sums) 786 62 = true := by decide +kernel
theorem ck_X7_far : gm_mfb 117 (yX7_far, cX7_far, 3, (some .int), 7, cd_X7_far) 809 62 = true := by decide +kernel
theorem ck_X7_near : gm_mfb 118 (yX7_near, cX7_near, 3, (some .int), 7, cd_X7_near) 814 62 = true := by decide +kernel
theorem ck_X7_why : gm_mfb 119 (yX7_why, cX7_why, 5, (some .int), 7, cd_X7_why) 820 62 = true := by decide +kernel
theorem ck_X7_next : gm_mfb 120 (yX7_next, cX7_next, 2, (some .int), 7, cd_X7_next) 832 62 = true := by decide +kernel
theorem ck_X7_ends : gm_mfb 121 (yX7_ends, cX7_ends, 3, (some .int), 7, cd_X7_ends) 841 62 = true := by decide +kernel
theorem ck_X7_arrives : gm_mfb 122 (yX7_arrives, cX7_arrives, 3, (some .int), 7, cd_X7_arrives) 871 62 = true := by decide +kernel
theorem ck_X7_worst : gm_mfb 123 (yX7_worst, cX7_worst, 8, (some .int), 7, cd_X7_worst) 875 62 = true := by decide +kernel
