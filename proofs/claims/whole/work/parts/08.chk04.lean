theorem ck_X8_turns : gm_mfb 176 (yX8_turns, cX8_turns, 4, none, 8, cd_X8_turns) 1194 70 = true := by decide +kernel
theorem ck_X8_isGoing : gm_mfb 177 (yX8_isGoing, cX8_isGoing, 3, (some .boolean), 8, cd_X8_isGoing) 1345 70 = true := by decide +kernel
theorem ck_X8_letsGo : gm_mfb 178 (yX8_letsGo, cX8_letsGo, 3, (some .int), 8, cd_X8_letsGo) 1342 70 = true := by decide +kernel
theorem ck_X8_byteAt : gm_mfb 179 (yX8_byteAt, cX8_byteAt, 2, (some .int), 8, cd_X8_byteAt) 1040 70 = true := by decide +kernel
theorem ck_X8_reads : gm_mfb 180 (yX8_reads, cX8_reads, 2, none, 8, cd_X8_reads) 1036 70 = true := by decide +kernel
theorem ck_X8_bad : gm_mfb 181 (yX8_bad, cX8_bad, 2, none, 8, cd_X8_bad) 1052 70 = true := by decide +kernel
theorem ck_X8_goesOn : gm_mfb 182 (yX8_goesOn, cX8_goesOn, 1, none, 8, cd_X8_goesOn) 1056 70 = true := by decide +kernel
theorem ck_X8_number : gm_mfb 183 (yX8_number, cX8_number, 4, (some .int), 8, cd_X8_number) 1060 70 = true := by decide +kernel
theorem ck_X8_sign : gm_mfb 184 (yX8_sign, cX8_sign, 2, none, 8, cd_X8_sign) 1064 70 = true := by decide +kernel
theorem ck_X8_isLetter : gm_mfb 185 (yX8_isLetter, cX8_isLetter, 2, (some .boolean), 8, cd_X8_isLetter) 1048 70 = true := by decide +kernel
theorem ck_X8_sort : gm_mfb 186 (yX8_sort, cX8_sort, 1, (some .int), 8, cd_X8_sort) 1098 70 = true := by decide +kernel
theorem ck_X8_readsCut : gm_mfb 187 (yX8_readsCut, cX8_readsCut, 3, none, 8, cd_X8_readsCut) 1078 70 = true := by decide +kernel
theorem ck_X8_readsLetter : gm_mfb 188 (yX8_readsLetter, cX8_readsLetter, 4, none, 8, cd_X8_readsLetter) 1102 70 = true := by decide +kernel
theorem ck_X8_laysLinks : gm_mfb 189 (yX8_laysLinks, cX8_laysLinks, 3, none, 8, cd_X8_laysLinks) 1067 70 = true := by decide +kernel
theorem ck_X8_feed : gm_mfb 190 (yX8_feed, cX8_feed, 2, (some .int), 8, cd_X8_feed) 1022 70 = true := by decide +kernel
theorem ck_X8_net : gm_mfb 191 (yX8_net, cX8_net, 2, (some .int), 8, cd_X8_net) 1032 70 = true := by decide +kernel
theorem ck_X8_fault : gm_mfb 192 (yX8_fault, cX8_fault, 1, (some .int), 8, cd_X8_fault) 1116 70 = true := by decide +kernel
theorem ck_X8_notes : gm_mfb 193 (yX8_notes, cX8_notes, 2, none, 8, cd_X8_notes) 1138 70 = true := by decide +kernel
theorem ck_X8_undo : gm_mfb 194 (yX8_undo, cX8_undo, 1, (some .int), 8, cd_X8_undo) 1120 70 = true := by decide +kernel
theorem ck_X8_isLetterThere : gm_mfb 195 (yX8_isLetterThere, cX8_isLetterThere, 2, (some .boolean), 8, cd_X8_isLetterThere) 1146 70 = true := by decide +kernel
theorem ck_X8_write : gm_mfb 196 (yX8_write, cX8_write, 4, (some .int), 8, cd_X8_write) 1125 70 = true := by decide +kernel
theorem ck_X8_bless : gm_mfb 197 (yX8_bless, cX8_bless, 2, (some .int), 8, cd_X8_bless) 1142 70 = true := by decide +kernel
theorem ck_X8_unbless : gm_mfb 198 (yX8_unbless, cX8_unbless, 2, (some .int), 8, cd_X8_unbless) 1156 70 = true := by decide +kernel
theorem ck_X8_isPortThere : gm_mfb 199 (yX8_isPortThere, cX8_isPortThere, 3, (some .boolean), 8, cd_X8_isPortThere) 1167 70 = true := by decide +kernel
theorem ck_X8_cut : gm_mfb 200 (yX8_cut, cX8_cut, 3, (some .int), 8, cd_X8_cut) 1163 70 = true := by decide +kernel
theorem ck_X8_mend : gm_mfb 201 (yX8_mend, cX8_mend, 3, (some .int), 8, cd_X8_mend) 1177 70 = true := by decide +kernel
theorem ck_X8_turn : gm_mfb 202 (yX8_turn, cX8_turn, 4, (some .int), 8, cd_X8_turn) 1181 70 = true := by decide +kernel
theorem ck_X8_letter : gm_mfb 203 (yX8_letter, cX8_letter, 4, (some .int), 8, cd_X8_letter) 1268 70 = true := by decide +kernel
theorem ck_X8_waitingAt : gm_mfb 204 (yX8_waitingAt, cX8_waitingAt, 3, (some .int), 8, cd_X8_waitingAt) 1276 70 = true := by decide +kernel
theorem ck_X8_deliveredAt : gm_mfb 205 (yX8_deliveredAt, cX8_deliveredAt, 4, (some .int), 8, cd_X8_deliveredAt) 1280 70 = true := by decide +kernel
theorem ck_X8_node : gm_mfb 206 (yX8_node, cX8_node, 3, (some .int), 8, cd_X8_node) 1272 70 = true := by decide +kernel
theorem ck_X8_at : gm_mfb 207 (yX8_at, cX8_at, 5, (some .int), 8, cd_X8_at) 1284 70 = true := by decide +kernel
theorem ck_X8_box : gm_mfb 208 (yX8_box, cX8_box, 3, (some .int), 8, cd_X8_box) 1288 70 = true := by decide +kernel
theorem ck_X8_rank : gm_mfb 209 (yX8_rank, cX8_rank, 2, (some .int), 8, cd_X8_rank) 1292 70 = true := by decide +kernel
theorem ck_X8_golden : gm_mfb 210 (yX8_golden, cX8_golden, 2, (some .int), 8, cd_X8_golden) 1296 70 = true := by decide +kernel
theorem ck_X8_log : gm_mfb 211 (yX8_log, cX8_log, 2, (some .int), 8, cd_X8_log) 1300 70 = true := by decide +kernel
theorem ck_X8_lost : gm_mfb 212 (yX8_lost, cX8_lost, 3, (some .int), 8, cd_X8_lost) 1307 70 = true := by decide +kernel
theorem ck_X8_all : gm_mfb 213 (yX8_all, cX8_all, 4, (some .int), 8, cd_X8_all) 1310 70 = true := by decide +kernel
theorem ck_X8_oldest : gm_mfb 214 (yX8_oldest, cX8_oldest, 4, (some .int), 8, cd_X8_oldest) 1314 70 = true := by decide +kernel
theorem ck_X8_sums : gm_mfb 215 (yX8_sums, cX8_sums, 2, (some .int), 8, cd_X8_sums) 1304 70 = true := by decide +kernel
theorem ck_X8_far : gm_mfb 216 (yX8_far, cX8_far, 3, (some .int), 8, cd_X8_far) 1318 70 = true := by decide +kernel
theorem ck_X8_near : gm_mfb 217 (yX8_near, cX8_near, 6, (some .int), 8, cd_X8_near) 1322 70 = true := by decide +kernel
theorem ck_X8_why : gm_mfb 218 (yX8_why, cX8_why, 5, (some .int), 8, cd_X8_why) 1326 70 = true := by decide +kernel
theorem ck_X8_next : gm_mfb 219 (yX8_next, cX8_next, 2, (some .int), 8, cd_X8_next) 1330 70 = true := by decide +kernel
theorem ck_X8_last : gm_mfb 220 (yX8_last, cX8_last, 5, (some .int), 8, cd_X8_last) 1349 70 = true := by decide +kernel
theorem ck_X8_greatestAsides : gm_mfb 221 (yX8_greatestAsides, cX8_greatestAsides, 3, (some .int), 8, cd_X8_greatestAsides) 1353 70 = true := by decide +kernel
theorem ck_X8_ends : gm_mfb 222 (yX8_ends, cX8_ends, 3, (some .int), 8, cd_X8_ends) 1338 70 = true := by decide +kernel
theorem ck_X8_arrives : gm_mfb 223 (yX8_arrives, cX8_arrives, 3, (some .int), 8, cd_X8_arrives) 1357 70 = true := by decide +kernel
theorem ck_X8_takesTill : gm_mfb 224 (yX8_takesTill, cX8_takesTill, 3, (some .int), 8, cd_X8_takesTill) 1365 70 = true := by decide +kernel
theorem ck_X8_worst : gm_mfb 225 (yX8_worst, cX8_worst, 8, (some .int), 8, cd_X8_worst) 1361 70 = true := by decide +kernel
theorem ck_X8_help : gm_mfb 226 (yX8_help, cX8_help, 6, (some .int), 8, cd_X8_help) 1369 70 = true := by decide +kernel
theorem ck_X8_reached : gm_mfb 227 (yX8_reached, cX8_reached, 4, (some .int), 8, cd_X8_reached) 1377 70 = true := by decide +kernel
theorem ck_X8_bridges : gm_mfb 228 (yX8_bridges, cX8_bridges, 9, (some .int), 8, cd_X8_bridges) 1373 70 = true := by decide +kernel
