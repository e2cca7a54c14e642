theorem ck_L_5 : gm_ckr 200 40 gm_pl gm_cpo gm_lpo gm_np 9 4 (some .boolean) false cL_law cd_L_law = true := by decide +kernel
theorem ck_L_6 : gm_ckr 240 40 gm_pl gm_cpo gm_lpo gm_np 9 4 (some .boolean) false cL_law cd_L_law = true := by decide +kernel
theorem ck_L_7 : gm_ckr 280 40 gm_pl gm_cpo gm_lpo gm_np 9 4 (some .boolean) false cL_law cd_L_law = true := by decide +kernel
theorem ck_L_8 : gm_ckr 320 40 gm_pl gm_cpo gm_lpo gm_np 9 4 (some .boolean) false cL_law cd_L_law = true := by decide +kernel
theorem ck_L_9 : gm_ckr 360 40 gm_pl gm_cpo gm_lpo gm_np 9 4 (some .boolean) false cL_law cd_L_law = true := by decide +kernel
