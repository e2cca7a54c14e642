theorem ck_L_10 : gm_ckr 400 40 gm_pl gm_cpo gm_lpo gm_np 9 4 (some .boolean) false cL_law cd_L_law = true := by decide +kernel
theorem ck_L_11 : gm_ckr 440 40 gm_pl gm_cpo gm_lpo gm_np 9 4 (some .boolean) false cL_law cd_L_law = true := by decide +kernel
theorem ck_L_12 : gm_ckr 480 40 gm_pl gm_cpo gm_lpo gm_np 9 4 (some .boolean) false cL_law cd_L_law = true := by decide +kernel
theorem ck_L_13 : gm_ckr 520 40 gm_pl gm_cpo gm_lpo gm_np 9 4 (some .boolean) false cL_law cd_L_law = true := by decide +kernel
theorem ck_L_14 : gm_ckr 560 40 gm_pl gm_cpo gm_lpo gm_np 9 4 (some .boolean) false cL_law cd_L_law = true := by decide +kernel
