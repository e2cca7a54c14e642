theorem ck_X7_help : gm_mfb 124 (yX7_help, cX7_help, 5, (some .int), 7, cd_X7_help) 886 62 = true := by decide +kernel
theorem ck_X7_bridges : gm_mfb 125 (yX7_bridges, cX7_bridges, 5, (some .int), 7, cd_X7_bridges) 898 62 = true := by decide +kernel
theorem ck_X7_odds : gm_mfb 126 (yX7_odds, cX7_odds, 13, (some .long), 7, cd_X7_odds) 910 62 = true := by decide +kernel
theorem ck_X7_drawn : gm_mfb 127 (yX7_drawn, cX7_drawn, 5, (some .int), 7, cd_X7_drawn) 928 62 = true := by decide +kernel
theorem ck_X7_image : gm_mfb 128 (yX7_image, cX7_image, 2, (some .int), 7, cd_X7_image) 942 62 = true := by decide +kernel
theorem ck_X7_restore : gm_mfb 129 (yX7_restore, cX7_restore, 2, (some .int), 7, cd_X7_restore) 946 62 = true := by decide +kernel
theorem ck_X7_count : gm_mfb 130 (yX7_count, cX7_count, 2, (some .int), 7, cd_X7_count) 950 62 = true := by decide +kernel
theorem ck_X7_isKind : gm_mfb 131 (yX7_isKind, cX7_isKind, 1, (some .boolean), 7, cd_X7_isKind) 528 62 = true := by decide +kernel
theorem ck_X7_casesOf : gm_mfb 132 (yX7_casesOf, cX7_casesOf, 6, (some .long), 7, cd_X7_casesOf) 914 62 = true := by decide +kernel
theorem ck_X7_commonDivisor : gm_mfb 133 (yX7_commonDivisor, cX7_commonDivisor, 11, (some .long), 7, cd_X7_commonDivisor) 923 62 = true := by decide +kernel
theorem ck_X8_init : gm_mfb 134 (yX8_init, cX8_init, 1, none, 8, cd_X8_init) 955 70 = true := by decide +kernel
theorem ck_X8_in : gm_mfb 135 (yX8_in, cX8_in, 6, (some .boolean), 8, cd_X8_in) 1026 70 = true := by decide +kernel
theorem ck_X8_has : gm_mfb 136 (yX8_has, cX8_has, 2, (some .boolean), 8, cd_X8_has) 1085 70 = true := by decide +kernel
theorem ck_X8_ones : gm_mfb 137 (yX8_ones, cX8_ones, 1, (some .int), 8, cd_X8_ones) 1173 70 = true := by decide +kernel
theorem ck_X8_copies : gm_mfb 138 (yX8_copies, cX8_copies, 5, none, 8, cd_X8_copies) 1112 70 = true := by decide +kernel
theorem ck_X8_tries : gm_mfb 139 (yX8_tries, cX8_tries, 1, none, 8, cd_X8_tries) 1334 70 = true := by decide +kernel
theorem ck_X8_nodes : gm_mfb 140 (yX8_nodes, cX8_nodes, 1, (some .int), 8, cd_X8_nodes) 1071 70 = true := by decide +kernel
theorem ck_X8_isNet : gm_mfb 141 (yX8_isNet, cX8_isNet, 1, (some .boolean), 8, cd_X8_isNet) 1129 70 = true := by decide +kernel
theorem ck_X8_isNode : gm_mfb 142 (yX8_isNode, cX8_isNode, 2, (some .boolean), 8, cd_X8_isNode) 1134 70 = true := by decide +kernel
theorem ck_X8_isPort : gm_mfb 143 (yX8_isPort, cX8_isPort, 5, (some .boolean), 8, cd_X8_isPort) 1074 70 = true := by decide +kernel
theorem ck_X8_beyond : gm_mfb 144 (yX8_beyond, cX8_beyond, 7, (some .int), 8, cd_X8_beyond) 1091 70 = true := by decide +kernel
theorem ck_X8_isLink : gm_mfb 145 (yX8_isLink, cX8_isLink, 3, (some .boolean), 8, cd_X8_isLink) 1082 70 = true := by decide +kernel
theorem ck_X8_across : gm_mfb 146 (yX8_across, cX8_across, 1, (some .int), 8, cd_X8_across) 1094 70 = true := by decide +kernel
theorem ck_X8_cuts : gm_mfb 147 (yX8_cuts, cX8_cuts, 4, none, 8, cd_X8_cuts) 1088 70 = true := by decide +kernel
theorem ck_X8_manyLinks : gm_mfb 148 (yX8_manyLinks, cX8_manyLinks, 3, (some .int), 8, cd_X8_manyLinks) 1170 70 = true := by decide +kernel
theorem ck_X8_measures : gm_mfb 149 (yX8_measures, cX8_measures, 6, none, 8, cd_X8_measures) 1186 70 = true := by decide +kernel
theorem ck_X8_nears : gm_mfb 150 (yX8_nears, cX8_nears, 6, (some .boolean), 8, cd_X8_nears) 1190 70 = true := by decide +kernel
theorem ck_X8_of : gm_mfb 151 (yX8_of, cX8_of, 3, (some .int), 8, cd_X8_of) 1152 70 = true := by decide +kernel
theorem ck_X8_is : gm_mfb 152 (yX8_is, cX8_is, 4, none, 8, cd_X8_is) 1108 70 = true := by decide +kernel
theorem ck_X8_adds : gm_mfb 153 (yX8_adds, cX8_adds, 6, none, 8, cd_X8_adds) 1105 70 = true := by decide +kernel
theorem ck_X8_weight : gm_mfb 154 (yX8_weight, cX8_weight, 4, (some .int), 8, cd_X8_weight) 1207 70 = true := by decide +kernel
theorem ck_X8_goldenOne : gm_mfb 155 (yX8_goldenOne, cX8_goldenOne, 3, (some .int), 8, cd_X8_goldenOne) 1197 70 = true := by decide +kernel
theorem ck_X8_isAhead : gm_mfb 156 (yX8_isAhead, cX8_isAhead, 4, (some .boolean), 8, cd_X8_isAhead) 1204 70 = true := by decide +kernel
theorem ck_X8_sorts : gm_mfb 157 (yX8_sorts, cX8_sorts, 5, none, 8, cd_X8_sorts) 1201 70 = true := by decide +kernel
theorem ck_X8_taste : gm_mfb 158 (yX8_taste, cX8_taste, 5, (some .int), 8, cd_X8_taste) 1248 70 = true := by decide +kernel
theorem ck_X8_isNear : gm_mfb 159 (yX8_isNear, cX8_isNear, 6, (some .boolean), 8, cd_X8_isNear) 1252 70 = true := by decide +kernel
theorem ck_X8_isHere : gm_mfb 160 (yX8_isHere, cX8_isHere, 3, (some .boolean), 8, cd_X8_isHere) 1214 70 = true := by decide +kernel
theorem ck_X8_manyHere : gm_mfb 161 (yX8_manyHere, cX8_manyHere, 4, (some .int), 8, cd_X8_manyHere) 1233 70 = true := by decide +kernel
theorem ck_X8_goldenAt : gm_mfb 162 (yX8_goldenAt, cX8_goldenAt, 4, (some .int), 8, cd_X8_goldenAt) 1149 70 = true := by decide +kernel
theorem ck_X8_dulls : gm_mfb 163 (yX8_dulls, cX8_dulls, 4, none, 8, cd_X8_dulls) 1159 70 = true := by decide +kernel
theorem ck_X8_finishes : gm_mfb 164 (yX8_finishes, cX8_finishes, 3, none, 8, cd_X8_finishes) 1217 70 = true := by decide +kernel
theorem ck_X8_loses : gm_mfb 165 (yX8_loses, cX8_loses, 4, none, 8, cd_X8_loses) 1224 70 = true := by decide +kernel
theorem ck_X8_delivers : gm_mfb 166 (yX8_delivers, cX8_delivers, 5, none, 8, cd_X8_delivers) 1211 70 = true := by decide +kernel
theorem ck_X8_wears : gm_mfb 167 (yX8_wears, cX8_wears, 5, none, 8, cd_X8_wears) 1221 70 = true := by decide +kernel
theorem ck_X8_firstIn : gm_mfb 168 (yX8_firstIn, cX8_firstIn, 5, (some .int), 8, cd_X8_firstIn) 1230 70 = true := by decide +kernel
theorem ck_X8_putsIn : gm_mfb 169 (yX8_putsIn, cX8_putsIn, 3, none, 8, cd_X8_putsIn) 1227 70 = true := by decide +kernel
theorem ck_X8_takes : gm_mfb 170 (yX8_takes, cX8_takes, 8, none, 8, cd_X8_takes) 1260 70 = true := by decide +kernel
theorem ck_X8_wish : gm_mfb 171 (yX8_wish, cX8_wish, 8, (some .int), 8, cd_X8_wish) 1245 70 = true := by decide +kernel
theorem ck_X8_firstOf : gm_mfb 172 (yX8_firstOf, cX8_firstOf, 5, (some .int), 8, cd_X8_firstOf) 1241 70 = true := by decide +kernel
theorem ck_X8_swaps : gm_mfb 173 (yX8_swaps, cX8_swaps, 11, none, 8, cd_X8_swaps) 1237 70 = true := by decide +kernel
theorem ck_X8_ports : gm_mfb 174 (yX8_ports, cX8_ports, 9, none, 8, cd_X8_ports) 1256 70 = true := by decide +kernel
theorem ck_X8_moves : gm_mfb 175 (yX8_moves, cX8_moves, 6, none, 8, cd_X8_moves) 1264 70 = true := by decide +kernel
