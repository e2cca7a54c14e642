theorem ck_L_0 : gm_ckr 0 40 gm_pl gm_cpo gm_lpo gm_np 9 4 (some .boolean) false cL_law cd_L_law = true := by decide +kernel
theorem ck_L_1 : gm_ckr 40 40 gm_pl gm_cpo gm_lpo gm_np 9 4 (some .boolean) false cL_law cd_L_law = true := by decide +kernel
theorem ck_L_2 : gm_ckr 80 40 gm_pl gm_cpo gm_lpo gm_np 9 4 (some .boolean) false cL_law cd_L_law = true := by decide +kernel
theorem ck_L_3 : gm_ckr 120 40 gm_pl gm_cpo gm_lpo gm_np 9 4 (some .boolean) false cL_law cd_L_law = true := by decide +kernel
theorem ck_L_4 : gm_ckr 160 40 gm_pl gm_cpo gm_lpo gm_np 9 4 (some .boolean) false cL_law cd_L_law = true := by decide +kernel
