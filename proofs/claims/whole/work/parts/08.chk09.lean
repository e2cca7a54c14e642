theorem ck_L_15 : gm_ckr 600 40 gm_pl gm_cpo gm_lpo gm_np 9 4 (some .boolean) false cL_law cd_L_law = true := by decide +kernel
theorem ck_L_16 : gm_ckr 640 40 gm_pl gm_cpo gm_lpo gm_np 9 4 (some .boolean) false cL_law cd_L_law = true := by decide +kernel
theorem ck_L_17 : gm_ckr 680 40 gm_pl gm_cpo gm_lpo gm_np 9 4 (some .boolean) false cL_law cd_L_law = true := by decide +kernel
theorem ck_L_18 : gm_ckr 720 1 gm_pl gm_cpo gm_lpo gm_np 9 4 (some .boolean) false cL_law cd_L_law = true := by decide +kernel
