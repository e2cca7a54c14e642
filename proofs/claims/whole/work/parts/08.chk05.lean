theorem ck_X8_gcd : gm_mfb 229 (yX8_gcd, cX8_gcd, 10, (some .long), 8, cd_X8_gcd) 1386 70 = true := by decide +kernel
theorem ck_X8_odds : gm_mfb 230 (yX8_odds, cX8_odds, 14, (some .long), 8, cd_X8_odds) 1381 70 = true := by decide +kernel
theorem ck_X8_drawn : gm_mfb 231 (yX8_drawn, cX8_drawn, 10, (some .int), 8, cd_X8_drawn) 1390 70 = true := by decide +kernel
theorem ck_X8_image : gm_mfb 232 (yX8_image, cX8_image, 2, (some .int), 8, cd_X8_image) 1400 70 = true := by decide +kernel
theorem ck_X8_restore : gm_mfb 233 (yX8_restore, cX8_restore, 2, (some .int), 8, cd_X8_restore) 1404 70 = true := by decide +kernel
theorem ck_X8_manyAre : gm_mfb 234 (yX8_manyAre, cX8_manyAre, 4, (some .int), 8, cd_X8_manyAre) 1412 70 = true := by decide +kernel
theorem ck_X8_count : gm_mfb 235 (yX8_count, cX8_count, 2, (some .int), 8, cd_X8_count) 1408 70 = true := by decide +kernel
theorem ck_J6_bitCount_0f7a4 : gm_mfb 236 (yJ6_bitCount_0f7a4, cJ6_bitCount_0f7a4, 1, (some .int), 10, cd_J6_bitCount_0f7a4) 589 74 = true := by decide +kernel
theorem ck_J7_fill_53178 : gm_mfb 237 (yJ7_fill_53178, cJ7_fill_53178, 4, none, 12, cd_J7_fill_53178) 439 71 = true := by decide +kernel
