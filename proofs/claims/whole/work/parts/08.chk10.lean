theorem ck_L_law : gm_ck gm_pl gm_cpo gm_lpo gm_np 9 4 (some .boolean) false cL_law cd_L_law := by
  refine gm_ckr_all (fun i hi => ?_)
  have hl : cd_L_law.length = 721 := by decide +kernel
  rw [hl] at hi
  by_cases h0 : i < 40
  · exact gm_ckr_of ck_L_0 i (by omega) h0
  by_cases h1 : i < 80
  · exact gm_ckr_of ck_L_1 i (by omega) h1
  by_cases h2 : i < 120
  · exact gm_ckr_of ck_L_2 i (by omega) h2
  by_cases h3 : i < 160
  · exact gm_ckr_of ck_L_3 i (by omega) h3
  by_cases h4 : i < 200
  · exact gm_ckr_of ck_L_4 i (by omega) h4
  by_cases h5 : i < 240
  · exact gm_ckr_of ck_L_5 i (by omega) h5
  by_cases h6 : i < 280
  · exact gm_ckr_of ck_L_6 i (by omega) h6
  by_cases h7 : i < 320
  · exact gm_ckr_of ck_L_7 i (by omega) h7
  by_cases h8 : i < 360
  · exact gm_ckr_of ck_L_8 i (by omega) h8
  by_cases h9 : i < 400
  · exact gm_ckr_of ck_L_9 i (by omega) h9
  by_cases h10 : i < 440
  · exact gm_ckr_of ck_L_10 i (by omega) h10
  by_cases h11 : i < 480
  · exact gm_ckr_of ck_L_11 i (by omega) h11
  by_cases h12 : i < 520
  · exact gm_ckr_of ck_L_12 i (by omega) h12
  by_cases h13 : i < 560
  · exact gm_ckr_of ck_L_13 i (by omega) h13
  by_cases h14 : i < 600
  · exact gm_ckr_of ck_L_14 i (by omega) h14
  by_cases h15 : i < 640
  · exact gm_ckr_of ck_L_15 i (by omega) h15
  by_cases h16 : i < 680
  · exact gm_ckr_of ck_L_16 i (by omega) h16
  by_cases h17 : i < 720
  · exact gm_ckr_of ck_L_17 i (by omega) h17
  by_cases h18 : i < 721
  · exact gm_ckr_of ck_L_18 i (by omega) h18
  omega
