set_option maxRecDepth 20000 in
theorem ok_C_init_t60 : mAll (mOk RX9 cX9_init 2 true true none (mnat p_C_init)) 60 [o_new 2 3, o_dup, o_callV 15 1 2, o_pP 10 12, o_ald 0, o_new 1 5, o_dup, o_ald 0, o_gP 10 11, o_callV 0 2 1, o_pP 10 13, o_ic (nI 0), o_ist 1, o_ild 1, o_ic (nI 2), o_cge 85, o_ald 0, o_gP 10 8, o_ild 1, o_new 8 3, o_dup, o_callV 94 1 8, o_aast 24 8, o_inc 1 (nI 1), o_goto 73, o_vret] := mA (i := 60) (ok_new (pc := 128) rfl (by decide +kernel) tyX1_ok df_2 wd_333 wd_185 wd_7 inw_2 rfl rfl (by decide +kernel)) (
  mA (i := 61) (ok_dup (pc := 131) rfl rfl (by decide +kernel)) (
  mA (i := 62) (ok_callV (pc := 132) (can_INk (by decide +kernel) cal_Dr_init (by decide +kernel) rfl wn_334 wd_186 wd_7 (by decide +kernel)) rfl rfl) (
  mA (i := 63) (ok_pP (pc := 135) rfl (by decide +kernel) wd_336 inw_10 tyX9_ok nmX9 rfl (tyX9_ok 12 (by decide +kernel)) rfl rfl rfl (by decide +kernel)) (
  mA (i := 64) (ok_ald_n (f := 0) (pc := 138) rfl rfl rfl (by decide +kernel)) (
  mA (i := 65) (ok_new (pc := 139) rfl (by decide +kernel) tyX0_ok df_1 wd_330 wd_337 wd_24 inw_1 rfl rfl (by decide +kernel)) (
  mA (i := 66) (ok_dup (pc := 142) rfl rfl (by decide +kernel)) (
  mA (i := 67) (ok_ald_n (f := 0) (pc := 143) rfl rfl rfl (by decide +kernel)) (
  mA (i := 68) (ok_gP (pc := 144) rfl (by decide +kernel) wd_335 inw_10 rfl rfl (by decide +kernel)) (
  mA (i := 69) (ok_callV (pc := 147) (can_Ik (by decide +kernel) cal_Cl_init (by decide +kernel) rfl wd_339 wd_338 wd_24 (by decide +kernel)) rfl rfl) (
  mA (i := 70) (ok_pP (pc := 150) rfl (by decide +kernel) wd_340 inw_10 tyX9_ok nmX9 rfl (tyX9_ok 13 (by decide +kernel)) rfl rfl rfl (by decide +kernel)) (
  mA (i := 71) (ok_ic (n := 0) (pc := 153) (by decide +kernel) rfl rfl (by decide +kernel)) (
  mA (i := 72) (ok_ist_n (f := 1) (pc := 154) rfl (by decide +kernel) rfl rfl rfl (by decide +kernel)) (
  mA (i := 73) (ok_ild_n (f := 1) (pc := 155) rfl rfl rfl (by decide +kernel)) (
  mA (i := 74) (ok_ic (n := 2) (pc := 156) (by decide +kernel) rfl rfl (by decide +kernel)) (
  mA (i := 75) (ok_cge (off := 22) (pc := 157) (tgt := 179) rfl rfl rfl (by decide +kernel) (by decide +kernel)) (
  mA (i := 76) (ok_ald_n (f := 0) (pc := 160) rfl rfl rfl (by decide +kernel)) (
  mA (i := 77) (ok_gP (pc := 161) rfl (by decide +kernel) wd_329 inw_10 rfl rfl (by decide +kernel)) (
  mA (i := 78) (ok_ild_n (f := 1) (pc := 164) rfl rfl rfl (by decide +kernel)) (
  mA (i := 79) (ok_new (pc := 165) rfl (by decide +kernel) tyX7_ok df_8 wd_326 wd_79 wd_80 inw_8 rfl rfl (by decide +kernel)) (
  mA (i := 80) (ok_dup (pc := 168) rfl rfl (by decide +kernel)) (
  mA (i := 81) (ok_callV (pc := 169) (can_INk (by decide +kernel) cal_St_init (by decide +kernel) rfl wn_327 wd_81 wd_80 (by decide +kernel)) rfl rfl) (
  mA (i := 82) (ok_aast (pc := 172) (Or.inr ⟨rfl, rfl, rfl, rfl⟩) rfl rfl (by decide +kernel)) (
  mA (i := 83) (ok_inc (z := 1) (pc := 173) (by decide +kernel) (by decide +kernel) rfl rfl rfl (by decide +kernel)) (
  mA (i := 84) (ok_goto (off := (-21)) (pc := 176) (tgt := 155) rfl rfl (by decide +kernel) (by decide +kernel)) (
  mA (i := 85) (ok_vret (pc := 179) rfl rfl (by decide +kernel)) (
  mZ))))))))))))))))))))))))))
set_option maxRecDepth 20000 in
theorem ok_C_init : mAll (mOk RX9 cX9_init 2 true true none (mnat p_C_init)) 0 k_C_init := mA (i := 0) (ok_ald_n (f := 0) (pc := 0) rfl rfl rfl (by decide +kernel)) (
  mA (i := 1) (ok_obj (pc := 1) wd_293 wd_1 wd_objc rfl rfl (by decide +kernel)) (
  mA (i := 2) (ok_ald_n (f := 0) (pc := 4) rfl rfl rfl (by decide +kernel)) (
  mA (i := 3) (ok_new (pc := 5) rfl (by decide +kernel) tyX5_ok df_6 wd_294 wd_295 wd_195 inw_6 rfl rfl (by decide +kernel)) (
  mA (i := 4) (ok_dup (pc := 8) rfl rfl (by decide +kernel)) (
  mA (i := 5) (ok_callV (pc := 9) (can_INk (by decide +kernel) cal_Re_init (by decide +kernel) rfl wn_297 wd_296 wd_195 (by decide +kernel)) rfl rfl) (
  mA (i := 6) (ok_pPF (pc := 12) rfl (by decide +kernel) wd_298 inw_10 tyX9_ok nmX9 rfl rfl rfl (tyX9_ok 0 (by decide +kernel)) rfl rfl rfl (by decide +kernel)) (
  mA (i := 7) (ok_ald_n (f := 0) (pc := 15) rfl rfl rfl (by decide +kernel)) (
  mA (i := 8) (ok_new (pc := 16) rfl (by decide +kernel) tyX3_ok df_4 wd_299 wd_300 wd_98 inw_4 rfl rfl (by decide +kernel)) (
  mA (i := 9) (ok_dup (pc := 19) rfl rfl (by decide +kernel)) (
  mA (i := 10) (ok_callV (pc := 20) (can_INk (by decide +kernel) cal_Ma_init (by decide +kernel) rfl wn_302 wd_301 wd_98 (by decide +kernel)) rfl rfl) (
  mA (i := 11) (ok_pPF (pc := 23) rfl (by decide +kernel) wd_303 inw_10 tyX9_ok nmX9 rfl rfl rfl (tyX9_ok 1 (by decide +kernel)) rfl rfl rfl (by decide +kernel)) (
  mA (i := 12) (ok_ald_n (f := 0) (pc := 26) rfl rfl rfl (by decide +kernel)) (
  mA (i := 13) (ok_new (pc := 27) rfl (by decide +kernel) tyX8_ok df_9 wd_304 wd_305 wd_269 inw_9 rfl rfl (by decide +kernel)) (
  mA (i := 14) (ok_dup (pc := 30) rfl rfl (by decide +kernel)) (
  mA (i := 15) (ok_callV (pc := 31) (can_INk (by decide +kernel) cal_Tr_init (by decide +kernel) rfl wn_307 wd_306 wd_269 (by decide +kernel)) rfl rfl) (
  mA (i := 16) (ok_pPF (pc := 34) rfl (by decide +kernel) wd_308 inw_10 tyX9_ok nmX9 rfl rfl rfl (tyX9_ok 2 (by decide +kernel)) rfl rfl rfl (by decide +kernel)) (
  mA (i := 17) (ok_ald_n (f := 0) (pc := 37) rfl rfl rfl (by decide +kernel)) (
  mA (i := 18) (ok_new (pc := 38) rfl (by decide +kernel) tyX4_ok df_5 wd_309 wd_310 wd_138 inw_5 rfl rfl (by decide +kernel)) (
  mA (i := 19) (ok_dup (pc := 41) rfl rfl (by decide +kernel)) (
  mA (i := 20) (ok_callV (pc := 42) (can_INk (by decide +kernel) cal_Pa_init (by decide +kernel) rfl wn_312 wd_311 wd_138 (by decide +kernel)) rfl rfl) (
  mA (i := 21) (ok_pPF (pc := 45) rfl (by decide +kernel) wd_313 inw_10 tyX9_ok nmX9 rfl rfl rfl (tyX9_ok 3 (by decide +kernel)) rfl rfl rfl (by decide +kernel)) (
  mA (i := 22) (ok_ald_n (f := 0) (pc := 48) rfl rfl rfl (by decide +kernel)) (
  mA (i := 23) (ok_new (pc := 49) rfl (by decide +kernel) tyX2_ok df_3 wd_314 wd_315 wd_316 inw_3 rfl rfl (by decide +kernel)) (
  mA (i := 24) (ok_dup (pc := 52) rfl rfl (by decide +kernel)) (
  mA (i := 25) (ok_callV (pc := 53) (can_Ik (by decide +kernel) cal_Hi_init (by decide +kernel) rfl wd_318 wd_317 wd_316 (by decide +kernel)) rfl rfl) (
  mA (i := 26) (ok_pPF (pc := 56) rfl (by decide +kernel) wd_319 inw_10 tyX9_ok nmX9 rfl rfl rfl (tyX9_ok 4 (by decide +kernel)) rfl rfl rfl (by decide +kernel)) (
  mA (i := 27) (ok_ald_n (f := 0) (pc := 59) rfl rfl rfl (by decide +kernel)) (
  mA (i := 28) (ok_new (pc := 60) rfl (by decide +kernel) tyX6_ok df_7 wd_320 wd_321 wd_241 inw_7 rfl rfl (by decide +kernel)) (
  mA (i := 29) (ok_dup (pc := 63) rfl rfl (by decide +kernel)) (
  mA (i := 30) (ok_callV (pc := 64) (can_INk (by decide +kernel) cal_Rl_init (by decide +kernel) rfl wn_323 wd_322 wd_241 (by decide +kernel)) rfl rfl) (
  mA (i := 31) (ok_pPF (pc := 67) rfl (by decide +kernel) wd_324 inw_10 tyX9_ok nmX9 rfl rfl rfl (tyX9_ok 5 (by decide +kernel)) rfl rfl rfl (by decide +kernel)) (
  mA (i := 32) (ok_ald_n (f := 0) (pc := 70) rfl rfl rfl (by decide +kernel)) (
  mA (i := 33) (ok_new (pc := 71) rfl (by decide +kernel) tyX6_ok df_7 wd_320 wd_321 wd_241 inw_7 rfl rfl (by decide +kernel)) (
  mA (i := 34) (ok_dup (pc := 74) rfl rfl (by decide +kernel)) (
  mA (i := 35) (ok_callV (pc := 75) (can_INk (by decide +kernel) cal_Rl_init (by decide +kernel) rfl wn_323 wd_322 wd_241 (by decide +kernel)) rfl rfl) (
  mA (i := 36) (ok_pPF (pc := 78) rfl (by decide +kernel) wd_325 inw_10 tyX9_ok nmX9 rfl rfl rfl (tyX9_ok 6 (by decide +kernel)) rfl rfl rfl (by decide +kernel)) (
  mA (i := 37) (ok_ald_n (f := 0) (pc := 81) rfl rfl rfl (by decide +kernel)) (
  mA (i := 38) (ok_new (pc := 82) rfl (by decide +kernel) tyX7_ok df_8 wd_326 wd_79 wd_80 inw_8 rfl rfl (by decide +kernel)) (
  mA (i := 39) (ok_dup (pc := 85) rfl rfl (by decide +kernel)) (
  mA (i := 40) (ok_callV (pc := 86) (can_INk (by decide +kernel) cal_St_init (by decide +kernel) rfl wn_327 wd_81 wd_80 (by decide +kernel)) rfl rfl) (
  mA (i := 41) (ok_pPF (pc := 89) rfl (by decide +kernel) wd_328 inw_10 tyX9_ok nmX9 rfl rfl rfl (tyX9_ok 7 (by decide +kernel)) rfl rfl rfl (by decide +kernel)) (
  mA (i := 42) (ok_ald_n (f := 0) (pc := 92) rfl rfl rfl (by decide +kernel)) (
  mA (i := 43) (ok_ic (n := 2) (pc := 93) (by decide +kernel) rfl rfl (by decide +kernel)) (
  mA (i := 44) (ok_anew (pc := 94) (Or.inr ⟨rfl, rfl, rfl⟩) wd_326 rfl rfl (by decide +kernel)) (
  mA (i := 45) (ok_pPF (pc := 97) rfl (by decide +kernel) wd_329 inw_10 tyX9_ok nmX9 rfl rfl rfl (tyX9_ok 8 (by decide +kernel)) rfl rfl rfl (by decide +kernel)) (
  mA (i := 46) (ok_ald_n (f := 0) (pc := 100) rfl rfl rfl (by decide +kernel)) (
  mA (i := 47) (ok_ic (n := 2) (pc := 101) (by decide +kernel) rfl rfl (by decide +kernel)) (
  mA (i := 48) (ok_anew (pc := 102) (Or.inl ⟨rfl, rfl, rfl⟩) wd_330 rfl rfl (by decide +kernel)) (
  mA (i := 49) (ok_pPF (pc := 105) rfl (by decide +kernel) wd_331 inw_10 tyX9_ok nmX9 rfl rfl rfl (tyX9_ok 9 (by decide +kernel)) rfl rfl rfl (by decide +kernel)) (
  mA (i := 50) (ok_ald_n (f := 0) (pc := 108) rfl rfl rfl (by decide +kernel)) (
  mA (i := 51) (ok_bi (n := 8) (pc := 109) (by decide +kernel) rfl rfl (by decide +kernel)) (
  mA (i := 52) (ok_newi (pc := 111) wd_2 rfl rfl (by decide +kernel)) (
  mA (i := 53) (ok_pPF (pc := 113) rfl (by decide +kernel) wd_332 inw_10 tyX9_ok nmX9 rfl rfl rfl (tyX9_ok 10 (by decide +kernel)) rfl rfl rfl (by decide +kernel)) (
  mA (i := 54) (ok_ald_n (f := 0) (pc := 116) rfl rfl rfl (by decide +kernel)) (
  mA (i := 55) (ok_new (pc := 117) rfl (by decide +kernel) tyX1_ok df_2 wd_333 wd_185 wd_7 inw_2 rfl rfl (by decide +kernel)) (
  mA (i := 56) (ok_dup (pc := 120) rfl rfl (by decide +kernel)) (
  mA (i := 57) (ok_callV (pc := 121) (can_INk (by decide +kernel) cal_Dr_init (by decide +kernel) rfl wn_334 wd_186 wd_7 (by decide +kernel)) rfl rfl) (
  mA (i := 58) (ok_pP (pc := 124) rfl (by decide +kernel) wd_335 inw_10 tyX9_ok nmX9 rfl (tyX9_ok 11 (by decide +kernel)) rfl rfl rfl (by decide +kernel)) (
  mA (i := 59) (ok_ald_n (f := 0) (pc := 127) rfl rfl rfl (by decide +kernel)) (
  ok_C_init_t60))))))))))))))))))))))))))))))))))))))))))))))))))))))))))))
set_option maxRecDepth 20000 in
theorem ok_C_feed : mAll (mOk RX9 cX9_feed 6 true false (some .int) (mnat p_C_feed)) 0 k_C_feed := mA (i := 0) (ok_ald_n (f := 0) (pc := 0) rfl rfl rfl (by decide +kernel)) (
  mA (i := 1) (ok_gP (pc := 1) rfl (by decide +kernel) wd_298 inw_10 rfl rfl (by decide +kernel)) (
  mA (i := 2) (ok_callI (pc := 4) (can_V cal_Re_onTape (by decide +kernel) rfl (by decide +kernel) rfl wd_341 wd_342 wd_343 wd_195 (by decide +kernel)) rfl rfl) (
  mA (i := 3) (ok_bi (n := 20) (pc := 7) (by decide +kernel) rfl rfl (by decide +kernel)) (
  mA (i := 4) (ok_add (pc := 9) rfl rfl (by decide +kernel)) (
  mA (i := 5) (ok_bi (n := 100) (pc := 10) (by decide +kernel) rfl rfl (by decide +kernel)) (
  mA (i := 6) (ok_cle (off := 6) (pc := 12) (tgt := 18) rfl rfl rfl (by decide +kernel) (by decide +kernel)) (
  mA (i := 7) (ok_bi (n := (-4)) (pc := 15) (by decide +kernel) rfl rfl (by decide +kernel)) (
  mA (i := 8) (ok_iret (pc := 17) rfl rfl (by decide +kernel)) (
  mA (i := 9) (ok_ald_n (f := 0) (pc := 18) rfl rfl rfl (by decide +kernel)) (
  mA (i := 10) (ok_gP (pc := 19) rfl (by decide +kernel) wd_298 inw_10 rfl rfl (by decide +kernel)) (
  mA (i := 11) (ok_ild_n (f := 1) (pc := 22) rfl rfl rfl (by decide +kernel)) (
  mA (i := 12) (ok_callV (pc := 23) (can_V cal_Re_putWord (by decide +kernel) rfl (by decide +kernel) rfl wd_344 wd_345 wd_346 wd_195 (by decide +kernel)) rfl rfl) (
  mA (i := 13) (ok_ald_n (f := 0) (pc := 26) rfl rfl rfl (by decide +kernel)) (
  mA (i := 14) (ok_gP (pc := 27) rfl (by decide +kernel) wd_298 inw_10 rfl rfl (by decide +kernel)) (
  mA (i := 15) (ok_ild_n (f := 2) (pc := 30) rfl rfl rfl (by decide +kernel)) (
  mA (i := 16) (ok_callV (pc := 31) (can_V cal_Re_putWord (by decide +kernel) rfl (by decide +kernel) rfl wd_344 wd_345 wd_346 wd_195 (by decide +kernel)) rfl rfl) (
  mA (i := 17) (ok_ald_n (f := 0) (pc := 34) rfl rfl rfl (by decide +kernel)) (
  mA (i := 18) (ok_gP (pc := 35) rfl (by decide +kernel) wd_298 inw_10 rfl rfl (by decide +kernel)) (
  mA (i := 19) (ok_ild_n (f := 3) (pc := 38) rfl rfl rfl (by decide +kernel)) (
  mA (i := 20) (ok_callV (pc := 39) (can_V cal_Re_putWord (by decide +kernel) rfl (by decide +kernel) rfl wd_344 wd_345 wd_346 wd_195 (by decide +kernel)) rfl rfl) (
  mA (i := 21) (ok_ald_n (f := 0) (pc := 42) rfl rfl rfl (by decide +kernel)) (
  mA (i := 22) (ok_gP (pc := 43) rfl (by decide +kernel) wd_298 inw_10 rfl rfl (by decide +kernel)) (
  mA (i := 23) (ok_ild (pc := 46) rfl rfl (by decide +kernel)) (
  mA (i := 24) (ok_callV (pc := 48) (can_V cal_Re_putWord (by decide +kernel) rfl (by decide +kernel) rfl wd_344 wd_345 wd_346 wd_195 (by decide +kernel)) rfl rfl) (
  mA (i := 25) (ok_ald_n (f := 0) (pc := 51) rfl rfl rfl (by decide +kernel)) (
  mA (i := 26) (ok_gP (pc := 52) rfl (by decide +kernel) wd_298 inw_10 rfl rfl (by decide +kernel)) (
  mA (i := 27) (ok_ild (pc := 55) rfl rfl (by decide +kernel)) (
  mA (i := 28) (ok_callV (pc := 57) (can_V cal_Re_putWord (by decide +kernel) rfl (by decide +kernel) rfl wd_344 wd_345 wd_346 wd_195 (by decide +kernel)) rfl rfl) (
  mA (i := 29) (ok_ald_n (f := 0) (pc := 60) rfl rfl rfl (by decide +kernel)) (
  mA (i := 30) (ok_gP (pc := 61) rfl (by decide +kernel) wd_298 inw_10 rfl rfl (by decide +kernel)) (
  mA (i := 31) (ok_callI (pc := 64) (can_V cal_Re_onTape (by decide +kernel) rfl (by decide +kernel) rfl wd_341 wd_342 wd_343 wd_195 (by decide +kernel)) rfl rfl) (
  mA (i := 32) (ok_iret (pc := 67) rfl rfl (by decide +kernel)) (
  mZ)))))))))))))))))))))))))))))))))
set_option maxRecDepth 20000 in
theorem ok_C_add : mAll (mOk RX9 cX9_add 3 true false (some .int) (mnat p_C_add)) 0 k_C_add := mA (i := 0) (ok_ild_n (f := 1) (pc := 0) rfl rfl rfl (by decide +kernel)) (
  mA (i := 1) (ok_iflt (off := 14) (pc := 1) (tgt := 15) rfl rfl rfl (by decide +kernel) (by decide +kernel)) (
  mA (i := 2) (ok_ild_n (f := 1) (pc := 4) rfl rfl rfl (by decide +kernel)) (
  mA (i := 3) (ok_ald_n (f := 0) (pc := 5) rfl rfl rfl (by decide +kernel)) (
  mA (i := 4) (ok_gP (pc := 6) rfl (by decide +kernel) wd_298 inw_10 rfl rfl (by decide +kernel)) (
  mA (i := 5) (ok_callI (pc := 9) (can_V cal_Re_onTape (by decide +kernel) rfl (by decide +kernel) rfl wd_341 wd_342 wd_343 wd_195 (by decide +kernel)) rfl rfl) (
  mA (i := 6) (ok_cle (off := 6) (pc := 12) (tgt := 18) rfl rfl rfl (by decide +kernel) (by decide +kernel)) (
  mA (i := 7) (ok_bi (n := (-3)) (pc := 15) (by decide +kernel) rfl rfl (by decide +kernel)) (
  mA (i := 8) (ok_iret (pc := 17) rfl rfl (by decide +kernel)) (
  mA (i := 9) (ok_ald_n (f := 0) (pc := 18) rfl rfl rfl (by decide +kernel)) (
  mA (i := 10) (ok_gP (pc := 19) rfl (by decide +kernel) wd_328 inw_10 rfl rfl (by decide +kernel)) (
  mA (i := 11) (ok_callI (pc := 22) (can_V cal_St_lowestFree (by decide +kernel) rfl (by decide +kernel) rfl wd_347 wd_348 wd_349 wd_80 (by decide +kernel)) rfl rfl) (
  mA (i := 12) (ok_ist_n (f := 2) (pc := 25) rfl (by decide +kernel) rfl rfl rfl (by decide +kernel)) (
  mA (i := 13) (ok_ild_n (f := 2) (pc := 26) rfl rfl rfl (by decide +kernel)) (
  mA (i := 14) (ok_ic (n := (-1)) (pc := 27) (by decide +kernel) rfl rfl (by decide +kernel)) (
  mA (i := 15) (ok_cne (off := 6) (pc := 28) (tgt := 34) rfl rfl rfl (by decide +kernel) (by decide +kernel)) (
  mA (i := 16) (ok_bi (n := (-4)) (pc := 31) (by decide +kernel) rfl rfl (by decide +kernel)) (
  mA (i := 17) (ok_iret (pc := 33) rfl rfl (by decide +kernel)) (
  mA (i := 18) (ok_ald_n (f := 0) (pc := 34) rfl rfl rfl (by decide +kernel)) (
  mA (i := 19) (ok_gP (pc := 35) rfl (by decide +kernel) wd_298 inw_10 rfl rfl (by decide +kernel)) (
  mA (i := 20) (ok_ild_n (f := 1) (pc := 38) rfl rfl rfl (by decide +kernel)) (
  mA (i := 21) (ok_callI (pc := 39) (can_V cal_Re_readClause (by decide +kernel) rfl (by decide +kernel) rfl wd_350 wd_351 wd_352 wd_195 (by decide +kernel)) rfl rfl) (
  mA (i := 22) (ok_ifne (off := 14) (pc := 42) (tgt := 56) rfl rfl rfl (by decide +kernel) (by decide +kernel)) (
  mA (i := 23) (ok_bi (n := (-30)) (pc := 45) (by decide +kernel) rfl rfl (by decide +kernel)) (
  mA (i := 24) (ok_ald_n (f := 0) (pc := 47) rfl rfl rfl (by decide +kernel)) (
  mA (i := 25) (ok_gP (pc := 48) rfl (by decide +kernel) wd_298 inw_10 rfl rfl (by decide +kernel)) (
  mA (i := 26) (ok_callI (pc := 51) (can_V cal_Re_latestFault (by decide +kernel) rfl (by decide +kernel) rfl wd_353 wd_354 wd_355 wd_195 (by decide +kernel)) rfl rfl) (
  mA (i := 27) (ok_sub (pc := 54) rfl rfl (by decide +kernel)) (
  mA (i := 28) (ok_iret (pc := 55) rfl rfl (by decide +kernel)) (
  mA (i := 29) (ok_ald_n (f := 0) (pc := 56) rfl rfl rfl (by decide +kernel)) (
  mA (i := 30) (ok_ild_n (f := 2) (pc := 57) rfl rfl rfl (by decide +kernel)) (
  mA (i := 31) (ok_new (pc := 58) rfl (by decide +kernel) tyX0_ok df_1 wd_330 wd_337 wd_24 inw_1 rfl rfl (by decide +kernel)) (
  mA (i := 32) (ok_dup (pc := 61) rfl rfl (by decide +kernel)) (
  mA (i := 33) (ok_ald_n (f := 0) (pc := 62) rfl rfl rfl (by decide +kernel)) (
  mA (i := 34) (ok_gP (pc := 63) rfl (by decide +kernel) wd_298 inw_10 rfl rfl (by decide +kernel)) (
  mA (i := 35) (ok_callP (pc := 66) (can_V cal_Re_symbolsRead (by decide +kernel) rfl (by decide +kernel) rfl wd_356 wd_357 wd_358 wd_195 (by decide +kernel)) rfl rfl) (
  mA (i := 36) (ok_callV (pc := 69) (can_Ik (by decide +kernel) cal_Cl_init (by decide +kernel) rfl wd_339 wd_338 wd_24 (by decide +kernel)) rfl rfl) (
  mA (i := 37) (ok_callV (pc := 72) (can_V cal_C_change (by decide +kernel) rfl (by decide +kernel) rfl wd_359 wd_360 wd_361 wd_35 (by decide +kernel)) rfl rfl) (
  mA (i := 38) (ok_ild_n (f := 2) (pc := 75) rfl rfl rfl (by decide +kernel)) (
  mA (i := 39) (ok_iret (pc := 76) rfl rfl (by decide +kernel)) (
  mZ))))))))))))))))))))))))))))))))))))))))
set_option maxRecDepth 20000 in
theorem ok_C_query : mAll (mOk RX9 cX9_query 2 true false (some .int) (mnat p_C_query)) 0 k_C_query := mA (i := 0) (ok_ild_n (f := 1) (pc := 0) rfl rfl rfl (by decide +kernel)) (
  mA (i := 1) (ok_iflt (off := 14) (pc := 1) (tgt := 15) rfl rfl rfl (by decide +kernel) (by decide +kernel)) (
  mA (i := 2) (ok_ild_n (f := 1) (pc := 4) rfl rfl rfl (by decide +kernel)) (
  mA (i := 3) (ok_ald_n (f := 0) (pc := 5) rfl rfl rfl (by decide +kernel)) (
  mA (i := 4) (ok_gP (pc := 6) rfl (by decide +kernel) wd_298 inw_10 rfl rfl (by decide +kernel)) (
  mA (i := 5) (ok_callI (pc := 9) (can_V cal_Re_onTape (by decide +kernel) rfl (by decide +kernel) rfl wd_341 wd_342 wd_343 wd_195 (by decide +kernel)) rfl rfl) (
  mA (i := 6) (ok_cle (off := 6) (pc := 12) (tgt := 18) rfl rfl rfl (by decide +kernel) (by decide +kernel)) (
  mA (i := 7) (ok_bi (n := (-3)) (pc := 15) (by decide +kernel) rfl rfl (by decide +kernel)) (
  mA (i := 8) (ok_iret (pc := 17) rfl rfl (by decide +kernel)) (
  mA (i := 9) (ok_ald_n (f := 0) (pc := 18) rfl rfl rfl (by decide +kernel)) (
  mA (i := 10) (ok_gP (pc := 19) rfl (by decide +kernel) wd_298 inw_10 rfl rfl (by decide +kernel)) (
  mA (i := 11) (ok_ild_n (f := 1) (pc := 22) rfl rfl rfl (by decide +kernel)) (
  mA (i := 12) (ok_callI (pc := 23) (can_V cal_Re_readClause (by decide +kernel) rfl (by decide +kernel) rfl wd_350 wd_351 wd_352 wd_195 (by decide +kernel)) rfl rfl) (
  mA (i := 13) (ok_ifne (off := 14) (pc := 26) (tgt := 40) rfl rfl rfl (by decide +kernel) (by decide +kernel)) (
  mA (i := 14) (ok_bi (n := (-30)) (pc := 29) (by decide +kernel) rfl rfl (by decide +kernel)) (
  mA (i := 15) (ok_ald_n (f := 0) (pc := 31) rfl rfl rfl (by decide +kernel)) (
  mA (i := 16) (ok_gP (pc := 32) rfl (by decide +kernel) wd_298 inw_10 rfl rfl (by decide +kernel)) (
  mA (i := 17) (ok_callI (pc := 35) (can_V cal_Re_latestFault (by decide +kernel) rfl (by decide +kernel) rfl wd_353 wd_354 wd_355 wd_195 (by decide +kernel)) rfl rfl) (
  mA (i := 18) (ok_sub (pc := 38) rfl rfl (by decide +kernel)) (
  mA (i := 19) (ok_iret (pc := 39) rfl rfl (by decide +kernel)) (
  mA (i := 20) (ok_ald_n (f := 0) (pc := 40) rfl rfl rfl (by decide +kernel)) (
  mA (i := 21) (ok_new (pc := 41) rfl (by decide +kernel) tyX0_ok df_1 wd_330 wd_337 wd_24 inw_1 rfl rfl (by decide +kernel)) (
  mA (i := 22) (ok_dup (pc := 44) rfl rfl (by decide +kernel)) (
  mA (i := 23) (ok_ald_n (f := 0) (pc := 45) rfl rfl rfl (by decide +kernel)) (
  mA (i := 24) (ok_gP (pc := 46) rfl (by decide +kernel) wd_298 inw_10 rfl rfl (by decide +kernel)) (
  mA (i := 25) (ok_callP (pc := 49) (can_V cal_Re_symbolsRead (by decide +kernel) rfl (by decide +kernel) rfl wd_356 wd_357 wd_358 wd_195 (by decide +kernel)) rfl rfl) (
  mA (i := 26) (ok_callV (pc := 52) (can_Ik (by decide +kernel) cal_Cl_init (by decide +kernel) rfl wd_339 wd_338 wd_24 (by decide +kernel)) rfl rfl) (
  mA (i := 27) (ok_pP (pc := 55) rfl (by decide +kernel) wd_340 inw_10 tyX9_ok nmX9 rfl (tyX9_ok 13 (by decide +kernel)) rfl rfl rfl (by decide +kernel)) (
  mA (i := 28) (ok_ald_n (f := 0) (pc := 58) rfl rfl rfl (by decide +kernel)) (
  mA (i := 29) (ok_gP (pc := 59) rfl (by decide +kernel) wd_340 inw_10 rfl rfl (by decide +kernel)) (
  mA (i := 30) (ok_callI (pc := 62) (can_V cal_Cl_size (by decide +kernel) rfl (by decide +kernel) rfl wd_362 wd_32 wd_33 wd_24 (by decide +kernel)) rfl rfl) (
  mA (i := 31) (ok_iret (pc := 65) rfl rfl (by decide +kernel)) (
  mZ))))))))))))))))))))))))))))))))
set_option maxRecDepth 20000 in
theorem ok_C_apply_t60 : mAll (mOk RX9 cX9_apply 5 true false (some .int) (mnat p_C_apply)) 60 [o_callV 0 2 1, o_pP 10 13, o_ild 4, o_iret] := mA (i := 60) (ok_callV (pc := 116) (can_Ik (by decide +kernel) cal_Cl_init (by decide +kernel) rfl wd_339 wd_338 wd_24 (by decide +kernel)) rfl rfl) (
  mA (i := 61) (ok_pP (pc := 119) rfl (by decide +kernel) wd_340 inw_10 tyX9_ok nmX9 rfl (tyX9_ok 13 (by decide +kernel)) rfl rfl rfl (by decide +kernel)) (
  mA (i := 62) (ok_ild (pc := 122) rfl rfl (by decide +kernel)) (
  mA (i := 63) (ok_iret (pc := 124) rfl rfl (by decide +kernel)) (
  mZ))))
set_option maxRecDepth 20000 in
theorem ok_C_apply : mAll (mOk RX9 cX9_apply 5 true false (some .int) (mnat p_C_apply)) 0 k_C_apply := mA (i := 0) (ok_ild_n (f := 1) (pc := 0) rfl rfl rfl (by decide +kernel)) (
  mA (i := 1) (ok_iflt (off := 14) (pc := 1) (tgt := 15) rfl rfl rfl (by decide +kernel) (by decide +kernel)) (
  mA (i := 2) (ok_ild_n (f := 1) (pc := 4) rfl rfl rfl (by decide +kernel)) (
  mA (i := 3) (ok_ald_n (f := 0) (pc := 5) rfl rfl rfl (by decide +kernel)) (
  mA (i := 4) (ok_gP (pc := 6) rfl (by decide +kernel) wd_298 inw_10 rfl rfl (by decide +kernel)) (
  mA (i := 5) (ok_callI (pc := 9) (can_V cal_Re_onTape (by decide +kernel) rfl (by decide +kernel) rfl wd_341 wd_342 wd_343 wd_195 (by decide +kernel)) rfl rfl) (
  mA (i := 6) (ok_cle (off := 6) (pc := 12) (tgt := 18) rfl rfl rfl (by decide +kernel) (by decide +kernel)) (
  mA (i := 7) (ok_bi (n := (-3)) (pc := 15) (by decide +kernel) rfl rfl (by decide +kernel)) (
  mA (i := 8) (ok_iret (pc := 17) rfl rfl (by decide +kernel)) (
  mA (i := 9) (ok_ald_n (f := 0) (pc := 18) rfl rfl rfl (by decide +kernel)) (
  mA (i := 10) (ok_gP (pc := 19) rfl (by decide +kernel) wd_298 inw_10 rfl rfl (by decide +kernel)) (
  mA (i := 11) (ok_ild_n (f := 1) (pc := 22) rfl rfl rfl (by decide +kernel)) (
  mA (i := 12) (ok_callI (pc := 23) (can_V cal_Re_readPut (by decide +kernel) rfl (by decide +kernel) rfl wd_363 wd_364 wd_365 wd_195 (by decide +kernel)) rfl rfl) (
  mA (i := 13) (ok_ifne (off := 14) (pc := 26) (tgt := 40) rfl rfl rfl (by decide +kernel) (by decide +kernel)) (
  mA (i := 14) (ok_bi (n := (-30)) (pc := 29) (by decide +kernel) rfl rfl (by decide +kernel)) (
  mA (i := 15) (ok_ald_n (f := 0) (pc := 31) rfl rfl rfl (by decide +kernel)) (
  mA (i := 16) (ok_gP (pc := 32) rfl (by decide +kernel) wd_298 inw_10 rfl rfl (by decide +kernel)) (
  mA (i := 17) (ok_callI (pc := 35) (can_V cal_Re_latestFault (by decide +kernel) rfl (by decide +kernel) rfl wd_353 wd_354 wd_355 wd_195 (by decide +kernel)) rfl rfl) (
  mA (i := 18) (ok_sub (pc := 38) rfl rfl (by decide +kernel)) (
  mA (i := 19) (ok_iret (pc := 39) rfl rfl (by decide +kernel)) (
  mA (i := 20) (ok_ald_n (f := 0) (pc := 40) rfl rfl rfl (by decide +kernel)) (
  mA (i := 21) (ok_gP (pc := 41) rfl (by decide +kernel) wd_298 inw_10 rfl rfl (by decide +kernel)) (
  mA (i := 22) (ok_callP (pc := 44) (can_V cal_Re_symbolsRead (by decide +kernel) rfl (by decide +kernel) rfl wd_356 wd_357 wd_358 wd_195 (by decide +kernel)) rfl rfl) (
  mA (i := 23) (ok_ast_n (f := 2) (pc := 47) rfl (by decide +kernel) rfl rfl rfl (by decide +kernel)) (
  mA (i := 24) (ok_ald_n (f := 2) (pc := 48) rfl rfl rfl (by decide +kernel)) (
  mA (i := 25) (ok_ic (n := 0) (pc := 49) (by decide +kernel) rfl rfl (by decide +kernel)) (
  mA (i := 26) (ok_callI (pc := 50) (can_V cal_Dr_codeAt (by decide +kernel) rfl (by decide +kernel) rfl wd_366 wd_15 wd_16 wd_7 (by decide +kernel)) rfl rfl) (
  mA (i := 27) (ok_ist_n (f := 3) (pc := 53) rfl (by decide +kernel) rfl rfl rfl (by decide +kernel)) (
  mA (i := 28) (ok_ald_n (f := 0) (pc := 54) rfl rfl rfl (by decide +kernel)) (
  mA (i := 29) (ok_gP (pc := 55) rfl (by decide +kernel) wd_335 inw_10 rfl rfl (by decide +kernel)) (
  mA (i := 30) (ok_ald_n (f := 0) (pc := 58) rfl rfl rfl (by decide +kernel)) (
  mA (i := 31) (ok_gP (pc := 59) rfl (by decide +kernel) wd_340 inw_10 rfl rfl (by decide +kernel)) (
  mA (i := 32) (ok_callV (pc := 62) (can_V cal_Dr_load (by decide +kernel) rfl (by decide +kernel) rfl wd_367 wd_368 wd_369 wd_7 (by decide +kernel)) rfl rfl) (
  mA (i := 33) (ok_ald_n (f := 0) (pc := 65) rfl rfl rfl (by decide +kernel)) (
  mA (i := 34) (ok_gP (pc := 66) rfl (by decide +kernel) wd_335 inw_10 rfl rfl (by decide +kernel)) (
  mA (i := 35) (ok_ild_n (f := 3) (pc := 69) rfl rfl rfl (by decide +kernel)) (
  mA (i := 36) (ok_ic (n := 0) (pc := 70) (by decide +kernel) rfl rfl (by decide +kernel)) (
  mA (i := 37) (ok_ald_n (f := 0) (pc := 71) rfl rfl rfl (by decide +kernel)) (
  mA (i := 38) (ok_gP (pc := 72) rfl (by decide +kernel) wd_335 inw_10 rfl rfl (by decide +kernel)) (
  mA (i := 39) (ok_callI (pc := 75) (can_V cal_Dr_size (by decide +kernel) rfl (by decide +kernel) rfl wd_370 wd_5 wd_6 wd_7 (by decide +kernel)) rfl rfl) (
  mA (i := 40) (ok_callI (pc := 78) (can_V cal_Dr_times (by decide +kernel) rfl (by decide +kernel) rfl wd_371 wd_372 wd_373 wd_7 (by decide +kernel)) rfl rfl) (
  mA (i := 41) (ok_ist (pc := 81) (by decide +kernel) rfl rfl rfl (by decide +kernel)) (
  mA (i := 42) (ok_ald_n (f := 0) (pc := 83) rfl rfl rfl (by decide +kernel)) (
  mA (i := 43) (ok_gP (pc := 84) rfl (by decide +kernel) wd_336 inw_10 rfl rfl (by decide +kernel)) (
  mA (i := 44) (ok_ald_n (f := 0) (pc := 87) rfl rfl rfl (by decide +kernel)) (
  mA (i := 45) (ok_gP (pc := 88) rfl (by decide +kernel) wd_335 inw_10 rfl rfl (by decide +kernel)) (
  mA (i := 46) (ok_ild_n (f := 3) (pc := 91) rfl rfl rfl (by decide +kernel)) (
  mA (i := 47) (ok_ald_n (f := 2) (pc := 92) rfl rfl rfl (by decide +kernel)) (
  mA (i := 48) (ok_ic (n := 1) (pc := 93) (by decide +kernel) rfl rfl (by decide +kernel)) (
  mA (i := 49) (ok_ald_n (f := 2) (pc := 94) rfl rfl rfl (by decide +kernel)) (
  mA (i := 50) (ok_callI (pc := 95) (can_V cal_Dr_size (by decide +kernel) rfl (by decide +kernel) rfl wd_370 wd_5 wd_6 wd_7 (by decide +kernel)) rfl rfl) (
  mA (i := 51) (ok_callI (pc := 98) (can_V cal_Dr_loadPut (by decide +kernel) rfl (by decide +kernel) rfl wd_374 wd_375 wd_376 wd_7 (by decide +kernel)) rfl rfl) (
  mA (i := 52) (ok_ifne (off := 6) (pc := 101) (tgt := 107) rfl rfl rfl (by decide +kernel) (by decide +kernel)) (
  mA (i := 53) (ok_bi (n := (-4)) (pc := 104) (by decide +kernel) rfl rfl (by decide +kernel)) (
  mA (i := 54) (ok_iret (pc := 106) rfl rfl (by decide +kernel)) (
  mA (i := 55) (ok_ald_n (f := 0) (pc := 107) rfl rfl rfl (by decide +kernel)) (
  mA (i := 56) (ok_new (pc := 108) rfl (by decide +kernel) tyX0_ok df_1 wd_330 wd_337 wd_24 inw_1 rfl rfl (by decide +kernel)) (
  mA (i := 57) (ok_dup (pc := 111) rfl rfl (by decide +kernel)) (
  mA (i := 58) (ok_ald_n (f := 0) (pc := 112) rfl rfl rfl (by decide +kernel)) (
  mA (i := 59) (ok_gP (pc := 113) rfl (by decide +kernel) wd_336 inw_10 rfl rfl (by decide +kernel)) (
  ok_C_apply_t60))))))))))))))))))))))))))))))))))))))))))))))))))))))))))))
set_option maxRecDepth 20000 in
theorem ok_C_fault : mAll (mOk RX9 cX9_fault 2 true false (some .int) (mnat p_C_fault)) 0 k_C_fault := mA (i := 0) (ok_ild_n (f := 1) (pc := 0) rfl rfl rfl (by decide +kernel)) (
  mA (i := 1) (ok_lsw (dflt := 43) (ps := #[(0, 27), (1, 35)]) (len := 27) (pc := 1) (by decide +kernel) ⟨⟨by decide +kernel, by decide +kernel⟩, ⟨by decide +kernel, by decide +kernel⟩, trivial⟩ (by decide +kernel) rfl (by decide +kernel)) (
  mA (i := 2) (ok_ald_n (f := 0) (pc := 28) rfl rfl rfl (by decide +kernel)) (
  mA (i := 3) (ok_gP (pc := 29) rfl (by decide +kernel) wd_298 inw_10 rfl rfl (by decide +kernel)) (
  mA (i := 4) (ok_callI (pc := 32) (can_V cal_Re_latestFault (by decide +kernel) rfl (by decide +kernel) rfl wd_353 wd_354 wd_355 wd_195 (by decide +kernel)) rfl rfl) (
  mA (i := 5) (ok_iret (pc := 35) rfl rfl (by decide +kernel)) (
  mA (i := 6) (ok_ald_n (f := 0) (pc := 36) rfl rfl rfl (by decide +kernel)) (
  mA (i := 7) (ok_gP (pc := 37) rfl (by decide +kernel) wd_298 inw_10 rfl rfl (by decide +kernel)) (
  mA (i := 8) (ok_callI (pc := 40) (can_V cal_Re_latestPlace (by decide +kernel) rfl (by decide +kernel) rfl wd_377 wd_378 wd_379 wd_195 (by decide +kernel)) rfl rfl) (
  mA (i := 9) (ok_iret (pc := 43) rfl rfl (by decide +kernel)) (
  mA (i := 10) (ok_ic (n := (-1)) (pc := 44) (by decide +kernel) rfl rfl (by decide +kernel)) (
  mA (i := 11) (ok_iret (pc := 45) rfl rfl (by decide +kernel)) (
  mZ))))))))))))
set_option maxRecDepth 20000 in
theorem ok_C_take : mAll (mOk RX9 cX9_take 3 true false (some .int) (mnat p_C_take)) 0 k_C_take := mA (i := 0) (ok_ald_n (f := 0) (pc := 0) rfl rfl rfl (by decide +kernel)) (
  mA (i := 1) (ok_ild_n (f := 1) (pc := 1) rfl rfl rfl (by decide +kernel)) (
  mA (i := 2) (ok_callP (pc := 2) (can_V cal_C_clauseOf (by decide +kernel) rfl (by decide +kernel) rfl wd_380 wd_381 wd_382 wd_35 (by decide +kernel)) rfl rfl) (
  mA (i := 3) (ok_ast_n (f := 2) (pc := 5) rfl (by decide +kernel) rfl rfl rfl (by decide +kernel)) (
  mA (i := 4) (ok_ald_n (f := 2) (pc := 6) rfl rfl rfl (by decide +kernel)) (
  mA (i := 5) (ok_nonnull (off := 6) (pc := 7) (tgt := 13) rfl rfl rfl (by decide +kernel) (by decide +kernel)) (
  mA (i := 6) (ok_bi (n := (-2)) (pc := 10) (by decide +kernel) rfl rfl (by decide +kernel)) (
  mA (i := 7) (ok_iret (pc := 12) rfl rfl (by decide +kernel)) (
  mA (i := 8) (ok_ald_n (f := 0) (pc := 13) rfl rfl rfl (by decide +kernel)) (
  mA (i := 9) (ok_ald_n (f := 2) (pc := 14) rfl rfl rfl (by decide +kernel)) (
  mA (i := 10) (ok_pP (pc := 15) rfl (by decide +kernel) wd_340 inw_10 tyX9_ok nmX9 rfl (tyX9_ok 13 (by decide +kernel)) rfl rfl rfl (by decide +kernel)) (
  mA (i := 11) (ok_ald_n (f := 2) (pc := 18) rfl rfl rfl (by decide +kernel)) (
  mA (i := 12) (ok_callI (pc := 19) (can_V cal_Cl_size (by decide +kernel) rfl (by decide +kernel) rfl wd_362 wd_32 wd_33 wd_24 (by decide +kernel)) rfl rfl) (
  mA (i := 13) (ok_iret (pc := 22) rfl rfl (by decide +kernel)) (
  mZ))))))))))))))
set_option maxRecDepth 20000 in
theorem ok_C_keep : mAll (mOk RX9 cX9_keep 2 true false (some .int) (mnat p_C_keep)) 0 k_C_keep := mA (i := 0) (ok_ald_n (f := 0) (pc := 0) rfl rfl rfl (by decide +kernel)) (
  mA (i := 1) (ok_gP (pc := 1) rfl (by decide +kernel) wd_328 inw_10 rfl rfl (by decide +kernel)) (
  mA (i := 2) (ok_callI (pc := 4) (can_V cal_St_lowestFree (by decide +kernel) rfl (by decide +kernel) rfl wd_347 wd_348 wd_349 wd_80 (by decide +kernel)) rfl rfl) (
  mA (i := 3) (ok_ist_n (f := 1) (pc := 7) rfl (by decide +kernel) rfl rfl rfl (by decide +kernel)) (
  mA (i := 4) (ok_ild_n (f := 1) (pc := 8) rfl rfl rfl (by decide +kernel)) (
  mA (i := 5) (ok_ic (n := (-1)) (pc := 9) (by decide +kernel) rfl rfl (by decide +kernel)) (
  mA (i := 6) (ok_cne (off := 6) (pc := 10) (tgt := 16) rfl rfl rfl (by decide +kernel) (by decide +kernel)) (
  mA (i := 7) (ok_bi (n := (-4)) (pc := 13) (by decide +kernel) rfl rfl (by decide +kernel)) (
  mA (i := 8) (ok_iret (pc := 15) rfl rfl (by decide +kernel)) (
  mA (i := 9) (ok_ald_n (f := 0) (pc := 16) rfl rfl rfl (by decide +kernel)) (
  mA (i := 10) (ok_ild_n (f := 1) (pc := 17) rfl rfl rfl (by decide +kernel)) (
  mA (i := 11) (ok_ald_n (f := 0) (pc := 18) rfl rfl rfl (by decide +kernel)) (
  mA (i := 12) (ok_gP (pc := 19) rfl (by decide +kernel) wd_340 inw_10 rfl rfl (by decide +kernel)) (
  mA (i := 13) (ok_callV (pc := 22) (can_V cal_C_change (by decide +kernel) rfl (by decide +kernel) rfl wd_359 wd_360 wd_361 wd_35 (by decide +kernel)) rfl rfl) (
  mA (i := 14) (ok_ild_n (f := 1) (pc := 25) rfl rfl rfl (by decide +kernel)) (
  mA (i := 15) (ok_iret (pc := 26) rfl rfl (by decide +kernel)) (
  mZ))))))))))))))))
set_option maxRecDepth 20000 in
theorem ok_C_remove : mAll (mOk RX9 cX9_remove 2 true false (some .int) (mnat p_C_remove)) 0 k_C_remove := mA (i := 0) (ok_ald_n (f := 0) (pc := 0) rfl rfl rfl (by decide +kernel)) (
  mA (i := 1) (ok_gP (pc := 1) rfl (by decide +kernel) wd_328 inw_10 rfl rfl (by decide +kernel)) (
  mA (i := 2) (ok_ild_n (f := 1) (pc := 4) rfl rfl rfl (by decide +kernel)) (
  mA (i := 3) (ok_callP (pc := 5) (can_V cal_St_clause (by decide +kernel) rfl (by decide +kernel) rfl wd_383 wd_171 wd_172 wd_80 (by decide +kernel)) rfl rfl) (
  mA (i := 4) (ok_nonnull (off := 6) (pc := 8) (tgt := 14) rfl rfl rfl (by decide +kernel) (by decide +kernel)) (
  mA (i := 5) (ok_bi (n := (-2)) (pc := 11) (by decide +kernel) rfl rfl (by decide +kernel)) (
  mA (i := 6) (ok_iret (pc := 13) rfl rfl (by decide +kernel)) (
  mA (i := 7) (ok_ald_n (f := 0) (pc := 14) rfl rfl rfl (by decide +kernel)) (
  mA (i := 8) (ok_ild_n (f := 1) (pc := 15) rfl rfl rfl (by decide +kernel)) (
  mA (i := 9) (ok_nul (pc := 16) rfl rfl (by decide +kernel)) (
  mA (i := 10) (ok_callV (pc := 17) (can_V cal_C_change (by decide +kernel) rfl (by decide +kernel) rfl wd_359 wd_360 wd_361 wd_35 (by decide +kernel)) rfl rfl) (
  mA (i := 11) (ok_ald_n (f := 0) (pc := 20) rfl rfl rfl (by decide +kernel)) (
  mA (i := 12) (ok_gP (pc := 21) rfl (by decide +kernel) wd_328 inw_10 rfl rfl (by decide +kernel)) (
  mA (i := 13) (ok_callI (pc := 24) (can_V cal_St_numbers (by decide +kernel) rfl (by decide +kernel) rfl wd_384 wd_177 wd_178 wd_80 (by decide +kernel)) rfl rfl) (
  mA (i := 14) (ok_callI (pc := 27) (can_S cal_Ji_bitCount (by decide +kernel) wd_385 wd_179 wd_180 (by decide +kernel)) rfl rfl) (
  mA (i := 15) (ok_iret (pc := 30) rfl rfl (by decide +kernel)) (
  mZ))))))))))))))))
set_option maxRecDepth 20000 in
theorem ok_C_literals : mAll (mOk RX9 cX9_literals 3 true false (some .int) (mnat p_C_literals)) 0 k_C_literals := mA (i := 0) (ok_ald_n (f := 0) (pc := 0) rfl rfl rfl (by decide +kernel)) (
  mA (i := 1) (ok_ild_n (f := 1) (pc := 1) rfl rfl rfl (by decide +kernel)) (
  mA (i := 2) (ok_callP (pc := 2) (can_V cal_C_clauseOf (by decide +kernel) rfl (by decide +kernel) rfl wd_380 wd_381 wd_382 wd_35 (by decide +kernel)) rfl rfl) (
  mA (i := 3) (ok_ast_n (f := 2) (pc := 5) rfl (by decide +kernel) rfl rfl rfl (by decide +kernel)) (
  mA (i := 4) (ok_ald_n (f := 2) (pc := 6) rfl rfl rfl (by decide +kernel)) (
  mA (i := 5) (ok_nonnull (off := 8) (pc := 7) (tgt := 15) rfl rfl rfl (by decide +kernel) (by decide +kernel)) (
  mA (i := 6) (ok_bi (n := (-2)) (pc := 10) (by decide +kernel) rfl rfl (by decide +kernel)) (
  mA (i := 7) (ok_goto (off := 7) (pc := 12) (tgt := 19) rfl rfl (by decide +kernel) (by decide +kernel)) (
  mA (i := 8) (ok_ald_n (f := 2) (pc := 15) rfl rfl rfl (by decide +kernel)) (
  mA (i := 9) (ok_callI (pc := 16) (can_V cal_Cl_size (by decide +kernel) rfl (by decide +kernel) rfl wd_362 wd_32 wd_33 wd_24 (by decide +kernel)) rfl rfl) (
  mA (i := 10) (ok_iret (pc := 19) rfl rfl (by decide +kernel)) (
  mZ)))))))))))
set_option maxRecDepth 20000 in
theorem ok_C_literal : mAll (mOk RX9 cX9_literal 6 true false (some .int) (mnat p_C_literal)) 0 k_C_literal := mA (i := 0) (ok_ald_n (f := 0) (pc := 0) rfl rfl rfl (by decide +kernel)) (
  mA (i := 1) (ok_ild_n (f := 1) (pc := 1) rfl rfl rfl (by decide +kernel)) (
  mA (i := 2) (ok_callP (pc := 2) (can_V cal_C_clauseOf (by decide +kernel) rfl (by decide +kernel) rfl wd_380 wd_381 wd_382 wd_35 (by decide +kernel)) rfl rfl) (
  mA (i := 3) (ok_ast (pc := 5) (by decide +kernel) rfl rfl rfl (by decide +kernel)) (
  mA (i := 4) (ok_ald (pc := 7) rfl rfl (by decide +kernel)) (
  mA (i := 5) (ok_nullp (off := 12) (pc := 9) (tgt := 21) rfl rfl rfl (by decide +kernel) (by decide +kernel)) (
  mA (i := 6) (ok_ald (pc := 12) rfl rfl (by decide +kernel)) (
  mA (i := 7) (ok_ild_n (f := 2) (pc := 14) rfl rfl rfl (by decide +kernel)) (
  mA (i := 8) (ok_callI (pc := 15) (can_V cal_Cl_has (by decide +kernel) rfl (by decide +kernel) rfl wd_386 wd_387 wd_388 wd_24 (by decide +kernel)) rfl rfl) (
  mA (i := 9) (ok_ifne (off := 6) (pc := 18) (tgt := 24) rfl rfl rfl (by decide +kernel) (by decide +kernel)) (
  mA (i := 10) (ok_bi (n := (-2)) (pc := 21) (by decide +kernel) rfl rfl (by decide +kernel)) (
  mA (i := 11) (ok_iret (pc := 23) rfl rfl (by decide +kernel)) (
  mA (i := 12) (ok_ald (pc := 24) rfl rfl (by decide +kernel)) (
  mA (i := 13) (ok_ald (pc := 26) rfl rfl (by decide +kernel)) (
  mA (i := 14) (ok_ild_n (f := 2) (pc := 28) rfl rfl rfl (by decide +kernel)) (
  mA (i := 15) (ok_callI (pc := 29) (can_V cal_Cl_start (by decide +kernel) rfl (by decide +kernel) rfl wd_389 wd_42 wd_43 wd_24 (by decide +kernel)) rfl rfl) (
  mA (i := 16) (ok_callI (pc := 32) (can_V cal_Cl_codeAt (by decide +kernel) rfl (by decide +kernel) rfl wd_390 wd_45 wd_46 wd_24 (by decide +kernel)) rfl rfl) (
  mA (i := 17) (ok_bi (n := 100) (pc := 35) (by decide +kernel) rfl rfl (by decide +kernel)) (
  mA (i := 18) (ok_sub (pc := 37) rfl rfl (by decide +kernel)) (
  mA (i := 19) (ok_ist (pc := 38) (by decide +kernel) rfl rfl rfl (by decide +kernel)) (
  mA (i := 20) (ok_ild_n (f := 3) (pc := 40) rfl rfl rfl (by decide +kernel)) (
  mA (i := 21) (ok_tsw (lo := 0) (n := 3) (dflt := 53) (offs := #[27, 32, 37]) (len := 27) (pc := 41) (by decide +kernel) rfl rfl (by decide +kernel) (by decide +kernel) (by decide +kernel) rfl (by decide +kernel)) (
  mA (i := 22) (ok_ild (pc := 68) rfl rfl (by decide +kernel)) (
  mA (i := 23) (ok_ic (n := 1) (pc := 70) (by decide +kernel) rfl rfl (by decide +kernel)) (
  mA (i := 24) (ok_and (pc := 71) rfl rfl (by decide +kernel)) (
  mA (i := 25) (ok_iret (pc := 72) rfl rfl (by decide +kernel)) (
  mA (i := 26) (ok_ild (pc := 73) rfl rfl (by decide +kernel)) (
  mA (i := 27) (ok_ic (n := 1) (pc := 75) (by decide +kernel) rfl rfl (by decide +kernel)) (
  mA (i := 28) (ok_shr (pc := 76) rfl rfl (by decide +kernel)) (
  mA (i := 29) (ok_iret (pc := 77) rfl rfl (by decide +kernel)) (
  mA (i := 30) (ok_ald (pc := 78) rfl rfl (by decide +kernel)) (
  mA (i := 31) (ok_ild_n (f := 2) (pc := 80) rfl rfl rfl (by decide +kernel)) (
  mA (i := 32) (ok_ic (n := 1) (pc := 81) (by decide +kernel) rfl rfl (by decide +kernel)) (
  mA (i := 33) (ok_add (pc := 82) rfl rfl (by decide +kernel)) (
  mA (i := 34) (ok_callI (pc := 83) (can_V cal_Cl_start (by decide +kernel) rfl (by decide +kernel) rfl wd_389 wd_42 wd_43 wd_24 (by decide +kernel)) rfl rfl) (
  mA (i := 35) (ok_ald (pc := 86) rfl rfl (by decide +kernel)) (
  mA (i := 36) (ok_ild_n (f := 2) (pc := 88) rfl rfl rfl (by decide +kernel)) (
  mA (i := 37) (ok_callI (pc := 89) (can_V cal_Cl_start (by decide +kernel) rfl (by decide +kernel) rfl wd_389 wd_42 wd_43 wd_24 (by decide +kernel)) rfl rfl) (
  mA (i := 38) (ok_sub (pc := 92) rfl rfl (by decide +kernel)) (
  mA (i := 39) (ok_iret (pc := 93) rfl rfl (by decide +kernel)) (
  mA (i := 40) (ok_bi (n := (-2)) (pc := 94) (by decide +kernel) rfl rfl (by decide +kernel)) (
  mA (i := 41) (ok_iret (pc := 96) rfl rfl (by decide +kernel)) (
  mZ))))))))))))))))))))))))))))))))))))))))))
set_option maxRecDepth 20000 in
theorem ok_C_code : mAll (mOk RX9 cX9_code 4 true false (some .int) (mnat p_C_code)) 0 k_C_code := mA (i := 0) (ok_ild_n (f := 1) (pc := 0) rfl rfl rfl (by decide +kernel)) (
  mA (i := 1) (ok_iflt (off := 9) (pc := 1) (tgt := 10) rfl rfl rfl (by decide +kernel) (by decide +kernel)) (
  mA (i := 2) (ok_ild_n (f := 1) (pc := 4) rfl rfl rfl (by decide +kernel)) (
  mA (i := 3) (ok_bi (n := 24) (pc := 5) (by decide +kernel) rfl rfl (by decide +kernel)) (
  mA (i := 4) (ok_cle (off := 6) (pc := 7) (tgt := 13) rfl rfl rfl (by decide +kernel) (by decide +kernel)) (
  mA (i := 5) (ok_bi (n := (-2)) (pc := 10) (by decide +kernel) rfl rfl (by decide +kernel)) (
  mA (i := 6) (ok_iret (pc := 12) rfl rfl (by decide +kernel)) (
  mA (i := 7) (ok_ald_n (f := 0) (pc := 13) rfl rfl rfl (by decide +kernel)) (
  mA (i := 8) (ok_ild_n (f := 1) (pc := 14) rfl rfl rfl (by decide +kernel)) (
  mA (i := 9) (ok_callP (pc := 15) (can_V cal_C_clauseOf (by decide +kernel) rfl (by decide +kernel) rfl wd_380 wd_381 wd_382 wd_35 (by decide +kernel)) rfl rfl) (
  mA (i := 10) (ok_ast_n (f := 3) (pc := 18) rfl (by decide +kernel) rfl rfl rfl (by decide +kernel)) (
  mA (i := 11) (ok_ald_n (f := 3) (pc := 19) rfl rfl rfl (by decide +kernel)) (
  mA (i := 12) (ok_nonnull (off := 6) (pc := 20) (tgt := 26) rfl rfl rfl (by decide +kernel) (by decide +kernel)) (
  mA (i := 13) (ok_bi (n := (-6)) (pc := 23) (by decide +kernel) rfl rfl (by decide +kernel)) (
  mA (i := 14) (ok_iret (pc := 25) rfl rfl (by decide +kernel)) (
  mA (i := 15) (ok_ild_n (f := 2) (pc := 26) rfl rfl rfl (by decide +kernel)) (
  mA (i := 16) (ok_iflt (off := 11) (pc := 27) (tgt := 38) rfl rfl rfl (by decide +kernel) (by decide +kernel)) (
  mA (i := 17) (ok_ild_n (f := 2) (pc := 30) rfl rfl rfl (by decide +kernel)) (
  mA (i := 18) (ok_ald_n (f := 3) (pc := 31) rfl rfl rfl (by decide +kernel)) (
  mA (i := 19) (ok_callI (pc := 32) (can_V cal_Cl_symbols (by decide +kernel) rfl (by decide +kernel) rfl wd_391 wd_58 wd_59 wd_24 (by decide +kernel)) rfl rfl) (
  mA (i := 20) (ok_clt (off := 8) (pc := 35) (tgt := 43) rfl rfl rfl (by decide +kernel) (by decide +kernel)) (
  mA (i := 21) (ok_bi (n := (-7)) (pc := 38) (by decide +kernel) rfl rfl (by decide +kernel)) (
  mA (i := 22) (ok_goto (off := 8) (pc := 40) (tgt := 48) rfl rfl (by decide +kernel) (by decide +kernel)) (
  mA (i := 23) (ok_ald_n (f := 3) (pc := 43) rfl rfl rfl (by decide +kernel)) (
  mA (i := 24) (ok_ild_n (f := 2) (pc := 44) rfl rfl rfl (by decide +kernel)) (
  mA (i := 25) (ok_callI (pc := 45) (can_V cal_Cl_codeAt (by decide +kernel) rfl (by decide +kernel) rfl wd_390 wd_45 wd_46 wd_24 (by decide +kernel)) rfl rfl) (
  mA (i := 26) (ok_iret (pc := 48) rfl rfl (by decide +kernel)) (
  mZ)))))))))))))))))))))))))))
set_option maxRecDepth 20000 in
theorem ok_C_variables : mAll (mOk RX9 cX9_variables 3 true false (some .int) (mnat p_C_variables)) 0 k_C_variables := mA (i := 0) (ok_ald_n (f := 0) (pc := 0) rfl rfl rfl (by decide +kernel)) (
  mA (i := 1) (ok_ild_n (f := 1) (pc := 1) rfl rfl rfl (by decide +kernel)) (
  mA (i := 2) (ok_callP (pc := 2) (can_V cal_C_clauseOf (by decide +kernel) rfl (by decide +kernel) rfl wd_380 wd_381 wd_382 wd_35 (by decide +kernel)) rfl rfl) (
  mA (i := 3) (ok_ast_n (f := 2) (pc := 5) rfl (by decide +kernel) rfl rfl rfl (by decide +kernel)) (
  mA (i := 4) (ok_ald_n (f := 2) (pc := 6) rfl rfl rfl (by decide +kernel)) (
  mA (i := 5) (ok_nonnull (off := 8) (pc := 7) (tgt := 15) rfl rfl rfl (by decide +kernel) (by decide +kernel)) (
  mA (i := 6) (ok_bi (n := (-2)) (pc := 10) (by decide +kernel) rfl rfl (by decide +kernel)) (
  mA (i := 7) (ok_goto (off := 7) (pc := 12) (tgt := 19) rfl rfl (by decide +kernel) (by decide +kernel)) (
  mA (i := 8) (ok_ald_n (f := 2) (pc := 15) rfl rfl rfl (by decide +kernel)) (
  mA (i := 9) (ok_callI (pc := 16) (can_V cal_Cl_variableBits (by decide +kernel) rfl (by decide +kernel) rfl wd_392 wd_393 wd_394 wd_24 (by decide +kernel)) rfl rfl) (
  mA (i := 10) (ok_iret (pc := 19) rfl rfl (by decide +kernel)) (
  mZ)))))))))))
set_option maxRecDepth 20000 in
theorem ok_C_always : mAll (mOk RX9 cX9_always 5 true false (some .int) (mnat p_C_always)) 0 k_C_always := mA (i := 0) (ok_ald_n (f := 0) (pc := 0) rfl rfl rfl (by decide +kernel)) (
  mA (i := 1) (ok_ild_n (f := 1) (pc := 1) rfl rfl rfl (by decide +kernel)) (
  mA (i := 2) (ok_callP (pc := 2) (can_V cal_C_clauseOf (by decide +kernel) rfl (by decide +kernel) rfl wd_380 wd_381 wd_382 wd_35 (by decide +kernel)) rfl rfl) (
  mA (i := 3) (ok_ast_n (f := 2) (pc := 5) rfl (by decide +kernel) rfl rfl rfl (by decide +kernel)) (
  mA (i := 4) (ok_ald_n (f := 2) (pc := 6) rfl rfl rfl (by decide +kernel)) (
  mA (i := 5) (ok_nonnull (off := 6) (pc := 7) (tgt := 13) rfl rfl rfl (by decide +kernel) (by decide +kernel)) (
  mA (i := 6) (ok_bi (n := (-2)) (pc := 10) (by decide +kernel) rfl rfl (by decide +kernel)) (
  mA (i := 7) (ok_iret (pc := 12) rfl rfl (by decide +kernel)) (
  mA (i := 8) (ok_ic (n := 0) (pc := 13) (by decide +kernel) rfl rfl (by decide +kernel)) (
  mA (i := 9) (ok_ist_n (f := 3) (pc := 14) rfl (by decide +kernel) rfl rfl rfl (by decide +kernel)) (
  mA (i := 10) (ok_ild_n (f := 3) (pc := 15) rfl rfl rfl (by decide +kernel)) (
  mA (i := 11) (ok_ald_n (f := 2) (pc := 16) rfl rfl rfl (by decide +kernel)) (
  mA (i := 12) (ok_callI (pc := 17) (can_V cal_Cl_size (by decide +kernel) rfl (by decide +kernel) rfl wd_362 wd_32 wd_33 wd_24 (by decide +kernel)) rfl rfl) (
  mA (i := 13) (ok_cge (off := 41) (pc := 20) (tgt := 61) rfl rfl rfl (by decide +kernel) (by decide +kernel)) (
  mA (i := 14) (ok_ild_n (f := 3) (pc := 23) rfl rfl rfl (by decide +kernel)) (
  mA (i := 15) (ok_ic (n := 1) (pc := 24) (by decide +kernel) rfl rfl (by decide +kernel)) (
  mA (i := 16) (ok_add (pc := 25) rfl rfl (by decide +kernel)) (
  mA (i := 17) (ok_ist (pc := 26) (by decide +kernel) rfl rfl rfl (by decide +kernel)) (
  mA (i := 18) (ok_ild (pc := 28) rfl rfl (by decide +kernel)) (
  mA (i := 19) (ok_ald_n (f := 2) (pc := 30) rfl rfl rfl (by decide +kernel)) (
  mA (i := 20) (ok_callI (pc := 31) (can_V cal_Cl_size (by decide +kernel) rfl (by decide +kernel) rfl wd_362 wd_32 wd_33 wd_24 (by decide +kernel)) rfl rfl) (
  mA (i := 21) (ok_cge (off := 21) (pc := 34) (tgt := 55) rfl rfl rfl (by decide +kernel) (by decide +kernel)) (
  mA (i := 22) (ok_ald_n (f := 2) (pc := 37) rfl rfl rfl (by decide +kernel)) (
  mA (i := 23) (ok_ild_n (f := 3) (pc := 38) rfl rfl rfl (by decide +kernel)) (
  mA (i := 24) (ok_ild (pc := 39) rfl rfl (by decide +kernel)) (
  mA (i := 25) (ok_callI (pc := 41) (can_V cal_Cl_opposite (by decide +kernel) rfl (by decide +kernel) rfl wd_395 wd_396 wd_397 wd_24 (by decide +kernel)) rfl rfl) (
  mA (i := 26) (ok_ifeq (off := 5) (pc := 44) (tgt := 49) rfl rfl rfl (by decide +kernel) (by decide +kernel)) (
  mA (i := 27) (ok_ic (n := 1) (pc := 47) (by decide +kernel) rfl rfl (by decide +kernel)) (
  mA (i := 28) (ok_iret (pc := 48) rfl rfl (by decide +kernel)) (
  mA (i := 29) (ok_inc (z := 1) (pc := 49) (by decide +kernel) (by decide +kernel) rfl rfl rfl (by decide +kernel)) (
  mA (i := 30) (ok_goto (off := (-24)) (pc := 52) (tgt := 28) rfl rfl (by decide +kernel) (by decide +kernel)) (
  mA (i := 31) (ok_inc (z := 1) (pc := 55) (by decide +kernel) (by decide +kernel) rfl rfl rfl (by decide +kernel)) (
  mA (i := 32) (ok_goto (off := (-43)) (pc := 58) (tgt := 15) rfl rfl (by decide +kernel) (by decide +kernel)) (
  mA (i := 33) (ok_ic (n := 0) (pc := 61) (by decide +kernel) rfl rfl (by decide +kernel)) (
  mA (i := 34) (ok_iret (pc := 62) rfl rfl (by decide +kernel)) (
  mZ)))))))))))))))))))))))))))))))))))
set_option maxRecDepth 20000 in
theorem ok_C_condensed : mAll (mOk RX9 cX9_condensed 5 true false (some .int) (mnat p_C_condensed)) 0 k_C_condensed := mA (i := 0) (ok_ald_n (f := 0) (pc := 0) rfl rfl rfl (by decide +kernel)) (
  mA (i := 1) (ok_ild_n (f := 1) (pc := 1) rfl rfl rfl (by decide +kernel)) (
  mA (i := 2) (ok_callP (pc := 2) (can_V cal_C_clauseOf (by decide +kernel) rfl (by decide +kernel) rfl wd_380 wd_381 wd_382 wd_35 (by decide +kernel)) rfl rfl) (
  mA (i := 3) (ok_ast_n (f := 3) (pc := 5) rfl (by decide +kernel) rfl rfl rfl (by decide +kernel)) (
  mA (i := 4) (ok_ald_n (f := 3) (pc := 6) rfl rfl rfl (by decide +kernel)) (
  mA (i := 5) (ok_nullp (off := 12) (pc := 7) (tgt := 19) rfl rfl rfl (by decide +kernel) (by decide +kernel)) (
  mA (i := 6) (ok_ild_n (f := 2) (pc := 10) rfl rfl rfl (by decide +kernel)) (
  mA (i := 7) (ok_iflt (off := 8) (pc := 11) (tgt := 19) rfl rfl rfl (by decide +kernel) (by decide +kernel)) (
  mA (i := 8) (ok_ild_n (f := 2) (pc := 14) rfl rfl rfl (by decide +kernel)) (
  mA (i := 9) (ok_ic (n := 1) (pc := 15) (by decide +kernel) rfl rfl (by decide +kernel)) (
  mA (i := 10) (ok_cle (off := 6) (pc := 16) (tgt := 22) rfl rfl rfl (by decide +kernel) (by decide +kernel)) (
  mA (i := 11) (ok_bi (n := (-2)) (pc := 19) (by decide +kernel) rfl rfl (by decide +kernel)) (
  mA (i := 12) (ok_iret (pc := 21) rfl rfl (by decide +kernel)) (
  mA (i := 13) (ok_ald_n (f := 0) (pc := 22) rfl rfl rfl (by decide +kernel)) (
  mA (i := 14) (ok_ald_n (f := 3) (pc := 23) rfl rfl rfl (by decide +kernel)) (
  mA (i := 15) (ok_callI (pc := 24) (can_V cal_C_fewest (by decide +kernel) rfl (by decide +kernel) rfl wd_398 wd_399 wd_400 wd_35 (by decide +kernel)) rfl rfl) (
  mA (i := 16) (ok_ist (pc := 27) (by decide +kernel) rfl rfl rfl (by decide +kernel)) (
  mA (i := 17) (ok_ild_n (f := 2) (pc := 29) rfl rfl rfl (by decide +kernel)) (
  mA (i := 18) (ok_ifne (off := 11) (pc := 30) (tgt := 41) rfl rfl rfl (by decide +kernel) (by decide +kernel)) (
  mA (i := 19) (ok_ild (pc := 33) rfl rfl (by decide +kernel)) (
  mA (i := 20) (ok_callI (pc := 35) (can_S cal_Ji_bitCount (by decide +kernel) wd_385 wd_179 wd_180 (by decide +kernel)) rfl rfl) (
  mA (i := 21) (ok_goto (off := 5) (pc := 38) (tgt := 43) rfl rfl (by decide +kernel) (by decide +kernel)) (
  mA (i := 22) (ok_ild (pc := 41) rfl rfl (by decide +kernel)) (
  mA (i := 23) (ok_iret (pc := 43) rfl rfl (by decide +kernel)) (
  mZ))))))))))))))))))))))))
set_option maxRecDepth 20000 in
theorem ok_C_covers : mAll (mOk RX9 cX9_covers 6 true false (some .int) (mnat p_C_covers)) 0 k_C_covers := mA (i := 0) (ok_ald_n (f := 0) (pc := 0) rfl rfl rfl (by decide +kernel)) (
  mA (i := 1) (ok_ild_n (f := 1) (pc := 1) rfl rfl rfl (by decide +kernel)) (
  mA (i := 2) (ok_callP (pc := 2) (can_V cal_C_clauseOf (by decide +kernel) rfl (by decide +kernel) rfl wd_380 wd_381 wd_382 wd_35 (by decide +kernel)) rfl rfl) (
  mA (i := 3) (ok_ast (pc := 5) (by decide +kernel) rfl rfl rfl (by decide +kernel)) (
  mA (i := 4) (ok_ald_n (f := 0) (pc := 7) rfl rfl rfl (by decide +kernel)) (
  mA (i := 5) (ok_ild_n (f := 2) (pc := 8) rfl rfl rfl (by decide +kernel)) (
  mA (i := 6) (ok_callP (pc := 9) (can_V cal_C_clauseOf (by decide +kernel) rfl (by decide +kernel) rfl wd_380 wd_381 wd_382 wd_35 (by decide +kernel)) rfl rfl) (
  mA (i := 7) (ok_ast (pc := 12) (by decide +kernel) rfl rfl rfl (by decide +kernel)) (
  mA (i := 8) (ok_ald (pc := 14) rfl rfl (by decide +kernel)) (
  mA (i := 9) (ok_nullp (off := 15) (pc := 16) (tgt := 31) rfl rfl rfl (by decide +kernel) (by decide +kernel)) (
  mA (i := 10) (ok_ald (pc := 19) rfl rfl (by decide +kernel)) (
  mA (i := 11) (ok_nullp (off := 10) (pc := 21) (tgt := 31) rfl rfl rfl (by decide +kernel) (by decide +kernel)) (
  mA (i := 12) (ok_ild_n (f := 3) (pc := 24) rfl rfl rfl (by decide +kernel)) (
  mA (i := 13) (ok_callI (pc := 25) (can_S cal_C_isMode (by decide +kernel) wd_402 wd_401 wd_35 (by decide +kernel)) rfl rfl) (
  mA (i := 14) (ok_ifne (off := 6) (pc := 28) (tgt := 34) rfl rfl rfl (by decide +kernel) (by decide +kernel)) (
  mA (i := 15) (ok_bi (n := (-2)) (pc := 31) (by decide +kernel) rfl rfl (by decide +kernel)) (
  mA (i := 16) (ok_iret (pc := 33) rfl rfl (by decide +kernel)) (
  mA (i := 17) (ok_ald_n (f := 0) (pc := 34) rfl rfl rfl (by decide +kernel)) (
  mA (i := 18) (ok_gP (pc := 35) rfl (by decide +kernel) wd_303 inw_10 rfl rfl (by decide +kernel)) (
  mA (i := 19) (ok_ald (pc := 38) rfl rfl (by decide +kernel)) (
  mA (i := 20) (ok_ald (pc := 40) rfl rfl (by decide +kernel)) (
  mA (i := 21) (ok_ild_n (f := 3) (pc := 42) rfl rfl rfl (by decide +kernel)) (
  mA (i := 22) (ok_callI (pc := 43) (can_V cal_Ma_findsFirst (by decide +kernel) rfl (by decide +kernel) rfl wd_403 wd_404 wd_405 wd_98 (by decide +kernel)) rfl rfl) (
  mA (i := 23) (ok_ifeq (off := 7) (pc := 46) (tgt := 53) rfl rfl rfl (by decide +kernel) (by decide +kernel)) (
  mA (i := 24) (ok_ic (n := 1) (pc := 49) (by decide +kernel) rfl rfl (by decide +kernel)) (
  mA (i := 25) (ok_goto (off := 4) (pc := 50) (tgt := 54) rfl rfl (by decide +kernel) (by decide +kernel)) (
  mA (i := 26) (ok_ic (n := 0) (pc := 53) (by decide +kernel) rfl rfl (by decide +kernel)) (
  mA (i := 27) (ok_iret (pc := 54) rfl rfl (by decide +kernel)) (
  mZ))))))))))))))))))))))))))))
set_option maxRecDepth 20000 in
theorem ok_C_ways : mAll (mOk RX9 cX9_ways 6 true false (some .int) (mnat p_C_ways)) 0 k_C_ways := mA (i := 0) (ok_ald_n (f := 0) (pc := 0) rfl rfl rfl (by decide +kernel)) (
  mA (i := 1) (ok_ild_n (f := 1) (pc := 1) rfl rfl rfl (by decide +kernel)) (
  mA (i := 2) (ok_callP (pc := 2) (can_V cal_C_clauseOf (by decide +kernel) rfl (by decide +kernel) rfl wd_380 wd_381 wd_382 wd_35 (by decide +kernel)) rfl rfl) (
  mA (i := 3) (ok_ast (pc := 5) (by decide +kernel) rfl rfl rfl (by decide +kernel)) (
  mA (i := 4) (ok_ald_n (f := 0) (pc := 7) rfl rfl rfl (by decide +kernel)) (
  mA (i := 5) (ok_ild_n (f := 2) (pc := 8) rfl rfl rfl (by decide +kernel)) (
  mA (i := 6) (ok_callP (pc := 9) (can_V cal_C_clauseOf (by decide +kernel) rfl (by decide +kernel) rfl wd_380 wd_381 wd_382 wd_35 (by decide +kernel)) rfl rfl) (
  mA (i := 7) (ok_ast (pc := 12) (by decide +kernel) rfl rfl rfl (by decide +kernel)) (
  mA (i := 8) (ok_ald (pc := 14) rfl rfl (by decide +kernel)) (
  mA (i := 9) (ok_nullp (off := 15) (pc := 16) (tgt := 31) rfl rfl rfl (by decide +kernel) (by decide +kernel)) (
  mA (i := 10) (ok_ald (pc := 19) rfl rfl (by decide +kernel)) (
  mA (i := 11) (ok_nullp (off := 10) (pc := 21) (tgt := 31) rfl rfl rfl (by decide +kernel) (by decide +kernel)) (
  mA (i := 12) (ok_ild_n (f := 3) (pc := 24) rfl rfl rfl (by decide +kernel)) (
  mA (i := 13) (ok_callI (pc := 25) (can_S cal_C_isMode (by decide +kernel) wd_402 wd_401 wd_35 (by decide +kernel)) rfl rfl) (
  mA (i := 14) (ok_ifne (off := 6) (pc := 28) (tgt := 34) rfl rfl rfl (by decide +kernel) (by decide +kernel)) (
  mA (i := 15) (ok_bi (n := (-2)) (pc := 31) (by decide +kernel) rfl rfl (by decide +kernel)) (
  mA (i := 16) (ok_iret (pc := 33) rfl rfl (by decide +kernel)) (
  mA (i := 17) (ok_ald_n (f := 0) (pc := 34) rfl rfl rfl (by decide +kernel)) (
  mA (i := 18) (ok_gP (pc := 35) rfl (by decide +kernel) wd_303 inw_10 rfl rfl (by decide +kernel)) (
  mA (i := 19) (ok_ald (pc := 38) rfl rfl (by decide +kernel)) (
  mA (i := 20) (ok_ald (pc := 40) rfl rfl (by decide +kernel)) (
  mA (i := 21) (ok_ild_n (f := 3) (pc := 42) rfl rfl rfl (by decide +kernel)) (
  mA (i := 22) (ok_callI (pc := 43) (can_V cal_Ma_countAll (by decide +kernel) rfl (by decide +kernel) rfl wd_406 wd_407 wd_408 wd_98 (by decide +kernel)) rfl rfl) (
  mA (i := 23) (ok_iret (pc := 46) rfl rfl (by decide +kernel)) (
  mZ))))))))))))))))))))))))
set_option maxRecDepth 20000 in
theorem ok_C_way : mAll (mOk RX9 cX9_way 7 true false (some .int) (mnat p_C_way)) 0 k_C_way := mA (i := 0) (ok_ald_n (f := 0) (pc := 0) rfl rfl rfl (by decide +kernel)) (
  mA (i := 1) (ok_ild_n (f := 1) (pc := 1) rfl rfl rfl (by decide +kernel)) (
  mA (i := 2) (ok_callP (pc := 2) (can_V cal_C_clauseOf (by decide +kernel) rfl (by decide +kernel) rfl wd_380 wd_381 wd_382 wd_35 (by decide +kernel)) rfl rfl) (
  mA (i := 3) (ok_ast (pc := 5) (by decide +kernel) rfl rfl rfl (by decide +kernel)) (
  mA (i := 4) (ok_ald_n (f := 0) (pc := 7) rfl rfl rfl (by decide +kernel)) (
  mA (i := 5) (ok_ild_n (f := 2) (pc := 8) rfl rfl rfl (by decide +kernel)) (
  mA (i := 6) (ok_callP (pc := 9) (can_V cal_C_clauseOf (by decide +kernel) rfl (by decide +kernel) rfl wd_380 wd_381 wd_382 wd_35 (by decide +kernel)) rfl rfl) (
  mA (i := 7) (ok_ast (pc := 12) (by decide +kernel) rfl rfl rfl (by decide +kernel)) (
  mA (i := 8) (ok_ald (pc := 14) rfl rfl (by decide +kernel)) (
  mA (i := 9) (ok_nullp (off := 25) (pc := 16) (tgt := 41) rfl rfl rfl (by decide +kernel) (by decide +kernel)) (
  mA (i := 10) (ok_ald (pc := 19) rfl rfl (by decide +kernel)) (
  mA (i := 11) (ok_nullp (off := 20) (pc := 21) (tgt := 41) rfl rfl rfl (by decide +kernel) (by decide +kernel)) (
  mA (i := 12) (ok_ild_n (f := 3) (pc := 24) rfl rfl rfl (by decide +kernel)) (
  mA (i := 13) (ok_callI (pc := 25) (can_S cal_C_isMode (by decide +kernel) wd_402 wd_401 wd_35 (by decide +kernel)) rfl rfl) (
  mA (i := 14) (ok_ifeq (off := 13) (pc := 28) (tgt := 41) rfl rfl rfl (by decide +kernel) (by decide +kernel)) (
  mA (i := 15) (ok_ald (pc := 31) rfl rfl (by decide +kernel)) (
  mA (i := 16) (ok_ild (pc := 33) rfl rfl (by decide +kernel)) (
  mA (i := 17) (ok_callI (pc := 35) (can_V cal_Cl_has (by decide +kernel) rfl (by decide +kernel) rfl wd_386 wd_387 wd_388 wd_24 (by decide +kernel)) rfl rfl) (
  mA (i := 18) (ok_ifne (off := 6) (pc := 38) (tgt := 44) rfl rfl rfl (by decide +kernel) (by decide +kernel)) (
  mA (i := 19) (ok_bi (n := (-2)) (pc := 41) (by decide +kernel) rfl rfl (by decide +kernel)) (
  mA (i := 20) (ok_iret (pc := 43) rfl rfl (by decide +kernel)) (
  mA (i := 21) (ok_ald_n (f := 0) (pc := 44) rfl rfl rfl (by decide +kernel)) (
  mA (i := 22) (ok_gP (pc := 45) rfl (by decide +kernel) wd_303 inw_10 rfl rfl (by decide +kernel)) (
  mA (i := 23) (ok_ald (pc := 48) rfl rfl (by decide +kernel)) (
  mA (i := 24) (ok_ald (pc := 50) rfl rfl (by decide +kernel)) (
  mA (i := 25) (ok_ild_n (f := 3) (pc := 52) rfl rfl rfl (by decide +kernel)) (
  mA (i := 26) (ok_callI (pc := 53) (can_V cal_Ma_findsFirst (by decide +kernel) rfl (by decide +kernel) rfl wd_403 wd_404 wd_405 wd_98 (by decide +kernel)) rfl rfl) (
  mA (i := 27) (ok_ifeq (off := 15) (pc := 56) (tgt := 71) rfl rfl rfl (by decide +kernel) (by decide +kernel)) (
  mA (i := 28) (ok_ald_n (f := 0) (pc := 59) rfl rfl rfl (by decide +kernel)) (
  mA (i := 29) (ok_gP (pc := 60) rfl (by decide +kernel) wd_303 inw_10 rfl rfl (by decide +kernel)) (
  mA (i := 30) (ok_ild (pc := 63) rfl rfl (by decide +kernel)) (
  mA (i := 31) (ok_callI (pc := 65) (can_V cal_Ma_placeOf (by decide +kernel) rfl (by decide +kernel) rfl wd_409 wd_410 wd_411 wd_98 (by decide +kernel)) rfl rfl) (
  mA (i := 32) (ok_goto (off := 4) (pc := 68) (tgt := 72) rfl rfl (by decide +kernel) (by decide +kernel)) (
  mA (i := 33) (ok_ic (n := (-1)) (pc := 71) (by decide +kernel) rfl rfl (by decide +kernel)) (
  mA (i := 34) (ok_iret (pc := 72) rfl rfl (by decide +kernel)) (
  mZ)))))))))))))))))))))))))))))))))))
set_option maxRecDepth 20000 in
theorem ok_C_bound_t60 : mAll (mOk RX9 cX9_bound 10 true false (some .int) (mnat p_C_bound)) 60 [o_ald 7, o_ild 8, o_ild 5, o_add, o_callI 8 2 1, o_goto 67, o_ic ((-1)), o_iret] := mA (i := 60) (ok_ald (pc := 119) rfl rfl (by decide +kernel)) (
  mA (i := 61) (ok_ild (pc := 121) rfl rfl (by decide +kernel)) (
  mA (i := 62) (ok_ild (pc := 123) rfl rfl (by decide +kernel)) (
  mA (i := 63) (ok_add (pc := 125) rfl rfl (by decide +kernel)) (
  mA (i := 64) (ok_callI (pc := 126) (can_V cal_Cl_codeAt (by decide +kernel) rfl (by decide +kernel) rfl wd_390 wd_45 wd_46 wd_24 (by decide +kernel)) rfl rfl) (
  mA (i := 65) (ok_goto (off := 4) (pc := 129) (tgt := 133) rfl rfl (by decide +kernel) (by decide +kernel)) (
  mA (i := 66) (ok_ic (n := (-1)) (pc := 132) (by decide +kernel) rfl rfl (by decide +kernel)) (
  mA (i := 67) (ok_iret (pc := 133) rfl rfl (by decide +kernel)) (
  mZ))))))))
set_option maxRecDepth 20000 in
theorem ok_C_bound : mAll (mOk RX9 cX9_bound 10 true false (some .int) (mnat p_C_bound)) 0 k_C_bound := mA (i := 0) (ok_ald_n (f := 0) (pc := 0) rfl rfl rfl (by decide +kernel)) (
  mA (i := 1) (ok_ild_n (f := 1) (pc := 1) rfl rfl rfl (by decide +kernel)) (
  mA (i := 2) (ok_callP (pc := 2) (can_V cal_C_clauseOf (by decide +kernel) rfl (by decide +kernel) rfl wd_380 wd_381 wd_382 wd_35 (by decide +kernel)) rfl rfl) (
  mA (i := 3) (ok_ast (pc := 5) (by decide +kernel) rfl rfl rfl (by decide +kernel)) (
  mA (i := 4) (ok_ald_n (f := 0) (pc := 7) rfl rfl rfl (by decide +kernel)) (
  mA (i := 5) (ok_ild_n (f := 2) (pc := 8) rfl rfl rfl (by decide +kernel)) (
  mA (i := 6) (ok_callP (pc := 9) (can_V cal_C_clauseOf (by decide +kernel) rfl (by decide +kernel) rfl wd_380 wd_381 wd_382 wd_35 (by decide +kernel)) rfl rfl) (
  mA (i := 7) (ok_ast (pc := 12) (by decide +kernel) rfl rfl rfl (by decide +kernel)) (
  mA (i := 8) (ok_ald (pc := 14) rfl rfl (by decide +kernel)) (
  mA (i := 9) (ok_nullp (off := 27) (pc := 16) (tgt := 43) rfl rfl rfl (by decide +kernel) (by decide +kernel)) (
  mA (i := 10) (ok_ald (pc := 19) rfl rfl (by decide +kernel)) (
  mA (i := 11) (ok_nullp (off := 22) (pc := 21) (tgt := 43) rfl rfl rfl (by decide +kernel) (by decide +kernel)) (
  mA (i := 12) (ok_ild_n (f := 3) (pc := 24) rfl rfl rfl (by decide +kernel)) (
  mA (i := 13) (ok_callI (pc := 25) (can_S cal_C_isMode (by decide +kernel) wd_402 wd_401 wd_35 (by decide +kernel)) rfl rfl) (
  mA (i := 14) (ok_ifeq (off := 15) (pc := 28) (tgt := 43) rfl rfl rfl (by decide +kernel) (by decide +kernel)) (
  mA (i := 15) (ok_ild (pc := 31) rfl rfl (by decide +kernel)) (
  mA (i := 16) (ok_iflt (off := 10) (pc := 33) (tgt := 43) rfl rfl rfl (by decide +kernel) (by decide +kernel)) (
  mA (i := 17) (ok_ild (pc := 36) rfl rfl (by decide +kernel)) (
  mA (i := 18) (ok_bi (n := 6) (pc := 38) (by decide +kernel) rfl rfl (by decide +kernel)) (
  mA (i := 19) (ok_clt (off := 6) (pc := 40) (tgt := 46) rfl rfl rfl (by decide +kernel) (by decide +kernel)) (
  mA (i := 20) (ok_bi (n := (-2)) (pc := 43) (by decide +kernel) rfl rfl (by decide +kernel)) (
  mA (i := 21) (ok_iret (pc := 45) rfl rfl (by decide +kernel)) (
  mA (i := 22) (ok_ild (pc := 46) rfl rfl (by decide +kernel)) (
  mA (i := 23) (ok_ic (n := (-1)) (pc := 48) (by decide +kernel) rfl rfl (by decide +kernel)) (
  mA (i := 24) (ok_cge (off := 6) (pc := 49) (tgt := 55) rfl rfl rfl (by decide +kernel) (by decide +kernel)) (
  mA (i := 25) (ok_bi (n := (-3)) (pc := 52) (by decide +kernel) rfl rfl (by decide +kernel)) (
  mA (i := 26) (ok_iret (pc := 54) rfl rfl (by decide +kernel)) (
  mA (i := 27) (ok_ald_n (f := 0) (pc := 55) rfl rfl rfl (by decide +kernel)) (
  mA (i := 28) (ok_gP (pc := 56) rfl (by decide +kernel) wd_303 inw_10 rfl rfl (by decide +kernel)) (
  mA (i := 29) (ok_ald (pc := 59) rfl rfl (by decide +kernel)) (
  mA (i := 30) (ok_ald (pc := 61) rfl rfl (by decide +kernel)) (
  mA (i := 31) (ok_ild_n (f := 3) (pc := 63) rfl rfl rfl (by decide +kernel)) (
  mA (i := 32) (ok_callI (pc := 64) (can_V cal_Ma_findsFirst (by decide +kernel) rfl (by decide +kernel) rfl wd_403 wd_404 wd_405 wd_98 (by decide +kernel)) rfl rfl) (
  mA (i := 33) (ok_ifne (off := 5) (pc := 67) (tgt := 72) rfl rfl rfl (by decide +kernel) (by decide +kernel)) (
  mA (i := 34) (ok_ic (n := (-1)) (pc := 70) (by decide +kernel) rfl rfl (by decide +kernel)) (
  mA (i := 35) (ok_iret (pc := 71) rfl rfl (by decide +kernel)) (
  mA (i := 36) (ok_ald_n (f := 0) (pc := 72) rfl rfl rfl (by decide +kernel)) (
  mA (i := 37) (ok_gP (pc := 73) rfl (by decide +kernel) wd_303 inw_10 rfl rfl (by decide +kernel)) (
  mA (i := 38) (ok_ild (pc := 76) rfl rfl (by decide +kernel)) (
  mA (i := 39) (ok_callI (pc := 78) (can_V cal_Ma_termOf (by decide +kernel) rfl (by decide +kernel) rfl wd_412 wd_413 wd_414 wd_98 (by decide +kernel)) rfl rfl) (
  mA (i := 40) (ok_ist (pc := 81) (by decide +kernel) rfl rfl rfl (by decide +kernel)) (
  mA (i := 41) (ok_ild (pc := 83) rfl rfl (by decide +kernel)) (
  mA (i := 42) (ok_ic (n := (-1)) (pc := 85) (by decide +kernel) rfl rfl (by decide +kernel)) (
  mA (i := 43) (ok_cne (off := 5) (pc := 86) (tgt := 91) rfl rfl rfl (by decide +kernel) (by decide +kernel)) (
  mA (i := 44) (ok_ic (n := (-1)) (pc := 89) (by decide +kernel) rfl rfl (by decide +kernel)) (
  mA (i := 45) (ok_iret (pc := 90) rfl rfl (by decide +kernel)) (
  mA (i := 46) (ok_ald (pc := 91) rfl rfl (by decide +kernel)) (
  mA (i := 47) (ok_ild (pc := 93) rfl rfl (by decide +kernel)) (
  mA (i := 48) (ok_callI (pc := 95) (can_V cal_Cl_endOfTerm (by decide +kernel) rfl (by decide +kernel) rfl wd_415 wd_123 wd_124 wd_24 (by decide +kernel)) rfl rfl) (
  mA (i := 49) (ok_ild (pc := 98) rfl rfl (by decide +kernel)) (
  mA (i := 50) (ok_sub (pc := 100) rfl rfl (by decide +kernel)) (
  mA (i := 51) (ok_ist (pc := 101) (by decide +kernel) rfl rfl rfl (by decide +kernel)) (
  mA (i := 52) (ok_ild (pc := 103) rfl rfl (by decide +kernel)) (
  mA (i := 53) (ok_ic (n := (-1)) (pc := 105) (by decide +kernel) rfl rfl (by decide +kernel)) (
  mA (i := 54) (ok_cne (off := 6) (pc := 106) (tgt := 112) rfl rfl rfl (by decide +kernel) (by decide +kernel)) (
  mA (i := 55) (ok_ild (pc := 109) rfl rfl (by decide +kernel)) (
  mA (i := 56) (ok_iret (pc := 111) rfl rfl (by decide +kernel)) (
  mA (i := 57) (ok_ild (pc := 112) rfl rfl (by decide +kernel)) (
  mA (i := 58) (ok_ild (pc := 114) rfl rfl (by decide +kernel)) (
  mA (i := 59) (ok_cge (off := 16) (pc := 116) (tgt := 132) rfl rfl rfl (by decide +kernel) (by decide +kernel)) (
  ok_C_bound_t60))))))))))))))))))))))))))))))))))))))))))))))))))))))))))))
set_option maxRecDepth 20000 in
theorem ok_C_single : mAll (mOk RX9 cX9_single 7 true false (some .int) (mnat p_C_single)) 0 k_C_single := mA (i := 0) (ok_ald_n (f := 0) (pc := 0) rfl rfl rfl (by decide +kernel)) (
  mA (i := 1) (ok_ild_n (f := 1) (pc := 1) rfl rfl rfl (by decide +kernel)) (
  mA (i := 2) (ok_callP (pc := 2) (can_V cal_C_clauseOf (by decide +kernel) rfl (by decide +kernel) rfl wd_380 wd_381 wd_382 wd_35 (by decide +kernel)) rfl rfl) (
  mA (i := 3) (ok_ast_n (f := 3) (pc := 5) rfl (by decide +kernel) rfl rfl rfl (by decide +kernel)) (
  mA (i := 4) (ok_ald_n (f := 0) (pc := 6) rfl rfl rfl (by decide +kernel)) (
  mA (i := 5) (ok_ild_n (f := 2) (pc := 7) rfl rfl rfl (by decide +kernel)) (
  mA (i := 6) (ok_callP (pc := 8) (can_V cal_C_clauseOf (by decide +kernel) rfl (by decide +kernel) rfl wd_380 wd_381 wd_382 wd_35 (by decide +kernel)) rfl rfl) (
  mA (i := 7) (ok_ast (pc := 11) (by decide +kernel) rfl rfl rfl (by decide +kernel)) (
  mA (i := 8) (ok_ald_n (f := 3) (pc := 13) rfl rfl rfl (by decide +kernel)) (
  mA (i := 9) (ok_nullp (off := 8) (pc := 14) (tgt := 22) rfl rfl rfl (by decide +kernel) (by decide +kernel)) (
  mA (i := 10) (ok_ald (pc := 17) rfl rfl (by decide +kernel)) (
  mA (i := 11) (ok_nonnull (off := 6) (pc := 19) (tgt := 25) rfl rfl rfl (by decide +kernel) (by decide +kernel)) (
  mA (i := 12) (ok_bi (n := (-2)) (pc := 22) (by decide +kernel) rfl rfl (by decide +kernel)) (
  mA (i := 13) (ok_iret (pc := 24) rfl rfl (by decide +kernel)) (
  mA (i := 14) (ok_ic (n := 0) (pc := 25) (by decide +kernel) rfl rfl (by decide +kernel)) (
  mA (i := 15) (ok_ist (pc := 26) (by decide +kernel) rfl rfl rfl (by decide +kernel)) (
  mA (i := 16) (ok_ic (n := 0) (pc := 28) (by decide +kernel) rfl rfl (by decide +kernel)) (
  mA (i := 17) (ok_ist (pc := 29) (by decide +kernel) rfl rfl rfl (by decide +kernel)) (
  mA (i := 18) (ok_ild (pc := 31) rfl rfl (by decide +kernel)) (
  mA (i := 19) (ok_ald_n (f := 3) (pc := 33) rfl rfl rfl (by decide +kernel)) (
  mA (i := 20) (ok_callI (pc := 34) (can_V cal_Cl_size (by decide +kernel) rfl (by decide +kernel) rfl wd_362 wd_32 wd_33 wd_24 (by decide +kernel)) rfl rfl) (
  mA (i := 21) (ok_cge (off := 33) (pc := 37) (tgt := 70) rfl rfl rfl (by decide +kernel) (by decide +kernel)) (
  mA (i := 22) (ok_ald_n (f := 0) (pc := 40) rfl rfl rfl (by decide +kernel)) (
  mA (i := 23) (ok_gP (pc := 41) rfl (by decide +kernel) wd_303 inw_10 rfl rfl (by decide +kernel)) (
  mA (i := 24) (ok_ald_n (f := 3) (pc := 44) rfl rfl rfl (by decide +kernel)) (
  mA (i := 25) (ok_ild (pc := 45) rfl rfl (by decide +kernel)) (
  mA (i := 26) (ok_ald (pc := 47) rfl rfl (by decide +kernel)) (
  mA (i := 27) (ok_callI (pc := 49) (can_V cal_Ma_findsForOne (by decide +kernel) rfl (by decide +kernel) rfl wd_416 wd_417 wd_418 wd_98 (by decide +kernel)) rfl rfl) (
  mA (i := 28) (ok_ifeq (off := 12) (pc := 52) (tgt := 64) rfl rfl rfl (by decide +kernel) (by decide +kernel)) (
  mA (i := 29) (ok_ild (pc := 55) rfl rfl (by decide +kernel)) (
  mA (i := 30) (ok_ic (n := 1) (pc := 57) (by decide +kernel) rfl rfl (by decide +kernel)) (
  mA (i := 31) (ok_ild (pc := 58) rfl rfl (by decide +kernel)) (
  mA (i := 32) (ok_shl (pc := 60) rfl rfl (by decide +kernel)) (
  mA (i := 33) (ok_or (pc := 61) rfl rfl (by decide +kernel)) (
  mA (i := 34) (ok_ist (pc := 62) (by decide +kernel) rfl rfl rfl (by decide +kernel)) (
  mA (i := 35) (ok_inc (z := 1) (pc := 64) (by decide +kernel) (by decide +kernel) rfl rfl rfl (by decide +kernel)) (
  mA (i := 36) (ok_goto (off := (-36)) (pc := 67) (tgt := 31) rfl rfl (by decide +kernel) (by decide +kernel)) (
  mA (i := 37) (ok_ild (pc := 70) rfl rfl (by decide +kernel)) (
  mA (i := 38) (ok_iret (pc := 72) rfl rfl (by decide +kernel)) (
  mZ)))))))))))))))))))))))))))))))))))))))
set_option maxRecDepth 20000 in
theorem ok_C_factor_t60 : mAll (mOk RX9 cX9_factor 6 true false (some .int) (mnat p_C_factor)) 60 [o_ald 0, o_new 1 5, o_dup, o_ald 0, o_gP 10 12, o_callV 0 2 1, o_pP 10 13, o_ald 0, o_gP 10 13, o_callI 4 1 1, o_iret] := mA (i := 60) (ok_ald_n (f := 0) (pc := 120) rfl rfl rfl (by decide +kernel)) (
  mA (i := 61) (ok_new (pc := 121) rfl (by decide +kernel) tyX0_ok df_1 wd_330 wd_337 wd_24 inw_1 rfl rfl (by decide +kernel)) (
  mA (i := 62) (ok_dup (pc := 124) rfl rfl (by decide +kernel)) (
  mA (i := 63) (ok_ald_n (f := 0) (pc := 125) rfl rfl rfl (by decide +kernel)) (
  mA (i := 64) (ok_gP (pc := 126) rfl (by decide +kernel) wd_336 inw_10 rfl rfl (by decide +kernel)) (
  mA (i := 65) (ok_callV (pc := 129) (can_Ik (by decide +kernel) cal_Cl_init (by decide +kernel) rfl wd_339 wd_338 wd_24 (by decide +kernel)) rfl rfl) (
  mA (i := 66) (ok_pP (pc := 132) rfl (by decide +kernel) wd_340 inw_10 tyX9_ok nmX9 rfl (tyX9_ok 13 (by decide +kernel)) rfl rfl rfl (by decide +kernel)) (
  mA (i := 67) (ok_ald_n (f := 0) (pc := 135) rfl rfl rfl (by decide +kernel)) (
  mA (i := 68) (ok_gP (pc := 136) rfl (by decide +kernel) wd_340 inw_10 rfl rfl (by decide +kernel)) (
  mA (i := 69) (ok_callI (pc := 139) (can_V cal_Cl_size (by decide +kernel) rfl (by decide +kernel) rfl wd_362 wd_32 wd_33 wd_24 (by decide +kernel)) rfl rfl) (
  mA (i := 70) (ok_iret (pc := 142) rfl rfl (by decide +kernel)) (
  mZ)))))))))))
set_option maxRecDepth 20000 in
theorem ok_C_factor : mAll (mOk RX9 cX9_factor 6 true false (some .int) (mnat p_C_factor)) 0 k_C_factor := mA (i := 0) (ok_ald_n (f := 0) (pc := 0) rfl rfl rfl (by decide +kernel)) (
  mA (i := 1) (ok_ild_n (f := 1) (pc := 1) rfl rfl rfl (by decide +kernel)) (
  mA (i := 2) (ok_callP (pc := 2) (can_V cal_C_clauseOf (by decide +kernel) rfl (by decide +kernel) rfl wd_380 wd_381 wd_382 wd_35 (by decide +kernel)) rfl rfl) (
  mA (i := 3) (ok_ast (pc := 5) (by decide +kernel) rfl rfl rfl (by decide +kernel)) (
  mA (i := 4) (ok_ald (pc := 7) rfl rfl (by decide +kernel)) (
  mA (i := 5) (ok_nullp (off := 26) (pc := 9) (tgt := 35) rfl rfl rfl (by decide +kernel) (by decide +kernel)) (
  mA (i := 6) (ok_ald (pc := 12) rfl rfl (by decide +kernel)) (
  mA (i := 7) (ok_ild_n (f := 2) (pc := 14) rfl rfl rfl (by decide +kernel)) (
  mA (i := 8) (ok_callI (pc := 15) (can_V cal_Cl_has (by decide +kernel) rfl (by decide +kernel) rfl wd_386 wd_387 wd_388 wd_24 (by decide +kernel)) rfl rfl) (
  mA (i := 9) (ok_ifeq (off := 17) (pc := 18) (tgt := 35) rfl rfl rfl (by decide +kernel) (by decide +kernel)) (
  mA (i := 10) (ok_ald (pc := 21) rfl rfl (by decide +kernel)) (
  mA (i := 11) (ok_ild_n (f := 3) (pc := 23) rfl rfl rfl (by decide +kernel)) (
  mA (i := 12) (ok_callI (pc := 24) (can_V cal_Cl_has (by decide +kernel) rfl (by decide +kernel) rfl wd_386 wd_387 wd_388 wd_24 (by decide +kernel)) rfl rfl) (
  mA (i := 13) (ok_ifeq (off := 8) (pc := 27) (tgt := 35) rfl rfl rfl (by decide +kernel) (by decide +kernel)) (
  mA (i := 14) (ok_ild_n (f := 2) (pc := 30) rfl rfl rfl (by decide +kernel)) (
  mA (i := 15) (ok_ild_n (f := 3) (pc := 31) rfl rfl rfl (by decide +kernel)) (
  mA (i := 16) (ok_cne (off := 6) (pc := 32) (tgt := 38) rfl rfl rfl (by decide +kernel) (by decide +kernel)) (
  mA (i := 17) (ok_bi (n := (-2)) (pc := 35) (by decide +kernel) rfl rfl (by decide +kernel)) (
  mA (i := 18) (ok_iret (pc := 37) rfl rfl (by decide +kernel)) (
  mA (i := 19) (ok_ald (pc := 38) rfl rfl (by decide +kernel)) (
  mA (i := 20) (ok_ald (pc := 40) rfl rfl (by decide +kernel)) (
  mA (i := 21) (ok_ild_n (f := 2) (pc := 42) rfl rfl rfl (by decide +kernel)) (
  mA (i := 22) (ok_callI (pc := 43) (can_V cal_Cl_start (by decide +kernel) rfl (by decide +kernel) rfl wd_389 wd_42 wd_43 wd_24 (by decide +kernel)) rfl rfl) (
  mA (i := 23) (ok_callI (pc := 46) (can_V cal_Cl_codeAt (by decide +kernel) rfl (by decide +kernel) rfl wd_390 wd_45 wd_46 wd_24 (by decide +kernel)) rfl rfl) (
  mA (i := 24) (ok_ald (pc := 49) rfl rfl (by decide +kernel)) (
  mA (i := 25) (ok_ald (pc := 51) rfl rfl (by decide +kernel)) (
  mA (i := 26) (ok_ild_n (f := 3) (pc := 53) rfl rfl rfl (by decide +kernel)) (
  mA (i := 27) (ok_callI (pc := 54) (can_V cal_Cl_start (by decide +kernel) rfl (by decide +kernel) rfl wd_389 wd_42 wd_43 wd_24 (by decide +kernel)) rfl rfl) (
  mA (i := 28) (ok_callI (pc := 57) (can_V cal_Cl_codeAt (by decide +kernel) rfl (by decide +kernel) rfl wd_390 wd_45 wd_46 wd_24 (by decide +kernel)) rfl rfl) (
  mA (i := 29) (ok_ceq (off := 6) (pc := 60) (tgt := 66) rfl rfl rfl (by decide +kernel) (by decide +kernel)) (
  mA (i := 30) (ok_bi (n := (-5)) (pc := 63) (by decide +kernel) rfl rfl (by decide +kernel)) (
  mA (i := 31) (ok_iret (pc := 65) rfl rfl (by decide +kernel)) (
  mA (i := 32) (ok_ald_n (f := 0) (pc := 66) rfl rfl rfl (by decide +kernel)) (
  mA (i := 33) (ok_gP (pc := 67) rfl (by decide +kernel) wd_335 inw_10 rfl rfl (by decide +kernel)) (
  mA (i := 34) (ok_ald (pc := 70) rfl rfl (by decide +kernel)) (
  mA (i := 35) (ok_callV (pc := 72) (can_V cal_Dr_load (by decide +kernel) rfl (by decide +kernel) rfl wd_367 wd_368 wd_369 wd_7 (by decide +kernel)) rfl rfl) (
  mA (i := 36) (ok_ald_n (f := 0) (pc := 75) rfl rfl rfl (by decide +kernel)) (
  mA (i := 37) (ok_ild_n (f := 2) (pc := 76) rfl rfl rfl (by decide +kernel)) (
  mA (i := 38) (ok_ild_n (f := 3) (pc := 77) rfl rfl rfl (by decide +kernel)) (
  mA (i := 39) (ok_callI (pc := 78) (can_V cal_C_makeSame (by decide +kernel) rfl (by decide +kernel) rfl wd_419 wd_420 wd_421 wd_35 (by decide +kernel)) rfl rfl) (
  mA (i := 40) (ok_ist (pc := 81) (by decide +kernel) rfl rfl rfl (by decide +kernel)) (
  mA (i := 41) (ok_ild (pc := 83) rfl rfl (by decide +kernel)) (
  mA (i := 42) (ok_ifeq (off := 6) (pc := 85) (tgt := 91) rfl rfl rfl (by decide +kernel) (by decide +kernel)) (
  mA (i := 43) (ok_ild (pc := 88) rfl rfl (by decide +kernel)) (
  mA (i := 44) (ok_iret (pc := 90) rfl rfl (by decide +kernel)) (
  mA (i := 45) (ok_ald_n (f := 0) (pc := 91) rfl rfl rfl (by decide +kernel)) (
  mA (i := 46) (ok_gP (pc := 92) rfl (by decide +kernel) wd_336 inw_10 rfl rfl (by decide +kernel)) (
  mA (i := 47) (ok_ald_n (f := 0) (pc := 95) rfl rfl rfl (by decide +kernel)) (
  mA (i := 48) (ok_gP (pc := 96) rfl (by decide +kernel) wd_335 inw_10 rfl rfl (by decide +kernel)) (
  mA (i := 49) (ok_ald_n (f := 0) (pc := 99) rfl rfl rfl (by decide +kernel)) (
  mA (i := 50) (ok_gP (pc := 100) rfl (by decide +kernel) wd_335 inw_10 rfl rfl (by decide +kernel)) (
  mA (i := 51) (ok_ild_n (f := 3) (pc := 103) rfl rfl rfl (by decide +kernel)) (
  mA (i := 52) (ok_callI (pc := 104) (can_V cal_Dr_startOf (by decide +kernel) rfl (by decide +kernel) rfl wd_422 wd_423 wd_424 wd_7 (by decide +kernel)) rfl rfl) (
  mA (i := 53) (ok_ald_n (f := 0) (pc := 107) rfl rfl rfl (by decide +kernel)) (
  mA (i := 54) (ok_gP (pc := 108) rfl (by decide +kernel) wd_335 inw_10 rfl rfl (by decide +kernel)) (
  mA (i := 55) (ok_ild_n (f := 3) (pc := 111) rfl rfl rfl (by decide +kernel)) (
  mA (i := 56) (ok_ic (n := 1) (pc := 112) (by decide +kernel) rfl rfl (by decide +kernel)) (
  mA (i := 57) (ok_add (pc := 113) rfl rfl (by decide +kernel)) (
  mA (i := 58) (ok_callI (pc := 114) (can_V cal_Dr_startOf (by decide +kernel) rfl (by decide +kernel) rfl wd_422 wd_423 wd_424 wd_7 (by decide +kernel)) rfl rfl) (
  mA (i := 59) (ok_callV (pc := 117) (can_V cal_Dr_loadWithout (by decide +kernel) rfl (by decide +kernel) rfl wd_425 wd_426 wd_427 wd_7 (by decide +kernel)) rfl rfl) (
  ok_C_factor_t60))))))))))))))))))))))))))))))))))))))))))))))))))))))))))))
set_option maxRecDepth 20000 in
theorem ok_C_alike : mAll (mOk RX9 cX9_alike 5 true false (some .int) (mnat p_C_alike)) 0 k_C_alike := mA (i := 0) (ok_ald_n (f := 0) (pc := 0) rfl rfl rfl (by decide +kernel)) (
  mA (i := 1) (ok_ild_n (f := 1) (pc := 1) rfl rfl rfl (by decide +kernel)) (
  mA (i := 2) (ok_callP (pc := 2) (can_V cal_C_clauseOf (by decide +kernel) rfl (by decide +kernel) rfl wd_380 wd_381 wd_382 wd_35 (by decide +kernel)) rfl rfl) (
  mA (i := 3) (ok_ast_n (f := 3) (pc := 5) rfl (by decide +kernel) rfl rfl rfl (by decide +kernel)) (
  mA (i := 4) (ok_ald_n (f := 0) (pc := 6) rfl rfl rfl (by decide +kernel)) (
  mA (i := 5) (ok_ild_n (f := 2) (pc := 7) rfl rfl rfl (by decide +kernel)) (
  mA (i := 6) (ok_callP (pc := 8) (can_V cal_C_clauseOf (by decide +kernel) rfl (by decide +kernel) rfl wd_380 wd_381 wd_382 wd_35 (by decide +kernel)) rfl rfl) (
  mA (i := 7) (ok_ast (pc := 11) (by decide +kernel) rfl rfl rfl (by decide +kernel)) (
  mA (i := 8) (ok_ald_n (f := 3) (pc := 13) rfl rfl rfl (by decide +kernel)) (
  mA (i := 9) (ok_nullp (off := 8) (pc := 14) (tgt := 22) rfl rfl rfl (by decide +kernel) (by decide +kernel)) (
  mA (i := 10) (ok_ald (pc := 17) rfl rfl (by decide +kernel)) (
  mA (i := 11) (ok_nonnull (off := 6) (pc := 19) (tgt := 25) rfl rfl rfl (by decide +kernel) (by decide +kernel)) (
  mA (i := 12) (ok_bi (n := (-2)) (pc := 22) (by decide +kernel) rfl rfl (by decide +kernel)) (
  mA (i := 13) (ok_iret (pc := 24) rfl rfl (by decide +kernel)) (
  mA (i := 14) (ok_ald_n (f := 0) (pc := 25) rfl rfl rfl (by decide +kernel)) (
  mA (i := 15) (ok_gP (pc := 26) rfl (by decide +kernel) wd_303 inw_10 rfl rfl (by decide +kernel)) (
  mA (i := 16) (ok_ald_n (f := 3) (pc := 29) rfl rfl rfl (by decide +kernel)) (
  mA (i := 17) (ok_ald (pc := 30) rfl rfl (by decide +kernel)) (
  mA (i := 18) (ok_callI (pc := 32) (can_V cal_Ma_findsRenaming (by decide +kernel) rfl (by decide +kernel) rfl wd_428 wd_429 wd_430 wd_98 (by decide +kernel)) rfl rfl) (
  mA (i := 19) (ok_ifeq (off := 7) (pc := 35) (tgt := 42) rfl rfl rfl (by decide +kernel) (by decide +kernel)) (
  mA (i := 20) (ok_ic (n := 1) (pc := 38) (by decide +kernel) rfl rfl (by decide +kernel)) (
  mA (i := 21) (ok_goto (off := 4) (pc := 39) (tgt := 43) rfl rfl (by decide +kernel) (by decide +kernel)) (
  mA (i := 22) (ok_ic (n := 0) (pc := 42) (by decide +kernel) rfl rfl (by decide +kernel)) (
  mA (i := 23) (ok_iret (pc := 43) rfl rfl (by decide +kernel)) (
  mZ))))))))))))))))))))))))
set_option maxRecDepth 20000 in
theorem ok_C_value : mAll (mOk RX9 cX9_value 5 true false (some .int) (mnat p_C_value)) 0 k_C_value := mA (i := 0) (ok_ald_n (f := 0) (pc := 0) rfl rfl rfl (by decide +kernel)) (
  mA (i := 1) (ok_ild_n (f := 1) (pc := 1) rfl rfl rfl (by decide +kernel)) (
  mA (i := 2) (ok_callP (pc := 2) (can_V cal_C_clauseOf (by decide +kernel) rfl (by decide +kernel) rfl wd_380 wd_381 wd_382 wd_35 (by decide +kernel)) rfl rfl) (
  mA (i := 3) (ok_ast (pc := 5) (by decide +kernel) rfl rfl rfl (by decide +kernel)) (
  mA (i := 4) (ok_ald (pc := 7) rfl rfl (by decide +kernel)) (
  mA (i := 5) (ok_nullp (off := 17) (pc := 9) (tgt := 26) rfl rfl rfl (by decide +kernel) (by decide +kernel)) (
  mA (i := 6) (ok_ild_n (f := 2) (pc := 12) rfl rfl rfl (by decide +kernel)) (
  mA (i := 7) (ok_callI (pc := 13) (can_S cal_C_isFeature (by decide +kernel) wd_431 wd_37 wd_35 (by decide +kernel)) rfl rfl) (
  mA (i := 8) (ok_ifeq (off := 10) (pc := 16) (tgt := 26) rfl rfl rfl (by decide +kernel) (by decide +kernel)) (
  mA (i := 9) (ok_ild_n (f := 3) (pc := 19) rfl rfl rfl (by decide +kernel)) (
  mA (i := 10) (ok_callI (pc := 20) (can_S cal_C_isMode (by decide +kernel) wd_402 wd_401 wd_35 (by decide +kernel)) rfl rfl) (
  mA (i := 11) (ok_ifne (off := 6) (pc := 23) (tgt := 29) rfl rfl rfl (by decide +kernel) (by decide +kernel)) (
  mA (i := 12) (ok_bi (n := (-2)) (pc := 26) (by decide +kernel) rfl rfl (by decide +kernel)) (
  mA (i := 13) (ok_iret (pc := 28) rfl rfl (by decide +kernel)) (
  mA (i := 14) (ok_ald (pc := 29) rfl rfl (by decide +kernel)) (
  mA (i := 15) (ok_ild_n (f := 2) (pc := 31) rfl rfl rfl (by decide +kernel)) (
  mA (i := 16) (ok_ild_n (f := 3) (pc := 32) rfl rfl rfl (by decide +kernel)) (
  mA (i := 17) (ok_callI (pc := 33) (can_V cal_Cl_measure (by decide +kernel) rfl (by decide +kernel) rfl wd_432 wd_174 wd_175 wd_24 (by decide +kernel)) rfl rfl) (
  mA (i := 18) (ok_iret (pc := 36) rfl rfl (by decide +kernel)) (
  mZ)))))))))))))))))))
set_option maxRecDepth 20000 in
theorem ok_C_power : mAll (mOk RX9 cX9_power 3 true false (some .int) (mnat p_C_power)) 0 k_C_power := mA (i := 0) (ok_ild_n (f := 1) (pc := 0) rfl rfl rfl (by decide +kernel)) (
  mA (i := 1) (ok_callI (pc := 1) (can_S cal_C_isFeature (by decide +kernel) wd_431 wd_37 wd_35 (by decide +kernel)) rfl rfl) (
  mA (i := 2) (ok_ifeq (off := 10) (pc := 4) (tgt := 14) rfl rfl rfl (by decide +kernel) (by decide +kernel)) (
  mA (i := 3) (ok_ild_n (f := 2) (pc := 7) rfl rfl rfl (by decide +kernel)) (
  mA (i := 4) (ok_callI (pc := 8) (can_S cal_C_isMode (by decide +kernel) wd_402 wd_401 wd_35 (by decide +kernel)) rfl rfl) (
  mA (i := 5) (ok_ifne (off := 6) (pc := 11) (tgt := 17) rfl rfl rfl (by decide +kernel) (by decide +kernel)) (
  mA (i := 6) (ok_bi (n := (-2)) (pc := 14) (by decide +kernel) rfl rfl (by decide +kernel)) (
  mA (i := 7) (ok_iret (pc := 16) rfl rfl (by decide +kernel)) (
  mA (i := 8) (ok_ald_n (f := 0) (pc := 17) rfl rfl rfl (by decide +kernel)) (
  mA (i := 9) (ok_gP (pc := 18) rfl (by decide +kernel) wd_313 inw_10 rfl rfl (by decide +kernel)) (
  mA (i := 10) (ok_ald_n (f := 0) (pc := 21) rfl rfl rfl (by decide +kernel)) (
  mA (i := 11) (ok_gP (pc := 22) rfl (by decide +kernel) wd_328 inw_10 rfl rfl (by decide +kernel)) (
  mA (i := 12) (ok_ild_n (f := 1) (pc := 25) rfl rfl rfl (by decide +kernel)) (
  mA (i := 13) (ok_ild_n (f := 2) (pc := 26) rfl rfl rfl (by decide +kernel)) (
  mA (i := 14) (ok_callI (pc := 27) (can_V cal_Pa_unlike (by decide +kernel) rfl (by decide +kernel) rfl wd_433 wd_140 wd_141 wd_138 (by decide +kernel)) rfl rfl) (
  mA (i := 15) (ok_iret (pc := 30) rfl rfl (by decide +kernel)) (
  mZ))))))))))))))))
set_option maxRecDepth 20000 in
theorem ok_C_choose : mAll (mOk RX9 cX9_choose 3 true false (some .int) (mnat p_C_choose)) 0 k_C_choose := mA (i := 0) (ok_ild_n (f := 2) (pc := 0) rfl rfl rfl (by decide +kernel)) (
  mA (i := 1) (ok_callI (pc := 1) (can_S cal_C_isMode (by decide +kernel) wd_402 wd_401 wd_35 (by decide +kernel)) rfl rfl) (
  mA (i := 2) (ok_ifne (off := 6) (pc := 4) (tgt := 10) rfl rfl rfl (by decide +kernel) (by decide +kernel)) (
  mA (i := 3) (ok_bi (n := (-2)) (pc := 7) (by decide +kernel) rfl rfl (by decide +kernel)) (
  mA (i := 4) (ok_iret (pc := 9) rfl rfl (by decide +kernel)) (
  mA (i := 5) (ok_ild_n (f := 1) (pc := 10) rfl rfl rfl (by decide +kernel)) (
  mA (i := 6) (ok_iflt (off := 9) (pc := 11) (tgt := 20) rfl rfl rfl (by decide +kernel) (by decide +kernel)) (
  mA (i := 7) (ok_ild_n (f := 1) (pc := 14) rfl rfl rfl (by decide +kernel)) (
  mA (i := 8) (ok_bi (n := 8) (pc := 15) (by decide +kernel) rfl rfl (by decide +kernel)) (
  mA (i := 9) (ok_cle (off := 6) (pc := 17) (tgt := 23) rfl rfl rfl (by decide +kernel) (by decide +kernel)) (
  mA (i := 10) (ok_bi (n := (-3)) (pc := 20) (by decide +kernel) rfl rfl (by decide +kernel)) (
  mA (i := 11) (ok_iret (pc := 22) rfl rfl (by decide +kernel)) (
  mA (i := 12) (ok_ald_n (f := 0) (pc := 23) rfl rfl rfl (by decide +kernel)) (
  mA (i := 13) (ok_gP (pc := 24) rfl (by decide +kernel) wd_313 inw_10 rfl rfl (by decide +kernel)) (
  mA (i := 14) (ok_ald_n (f := 0) (pc := 27) rfl rfl rfl (by decide +kernel)) (
  mA (i := 15) (ok_gP (pc := 28) rfl (by decide +kernel) wd_328 inw_10 rfl rfl (by decide +kernel)) (
  mA (i := 16) (ok_ild_n (f := 2) (pc := 31) rfl rfl rfl (by decide +kernel)) (
  mA (i := 17) (ok_ald_n (f := 0) (pc := 32) rfl rfl rfl (by decide +kernel)) (
  mA (i := 18) (ok_gP (pc := 33) rfl (by decide +kernel) wd_332 inw_10 rfl rfl (by decide +kernel)) (
  mA (i := 19) (ok_ild_n (f := 1) (pc := 36) rfl rfl rfl (by decide +kernel)) (
  mA (i := 20) (ok_callV (pc := 37) (can_V cal_Pa_strongest (by decide +kernel) rfl (by decide +kernel) rfl wd_434 wd_435 wd_436 wd_138 (by decide +kernel)) rfl rfl) (
  mA (i := 21) (ok_ald_n (f := 0) (pc := 40) rfl rfl rfl (by decide +kernel)) (
  mA (i := 22) (ok_ild_n (f := 1) (pc := 41) rfl rfl rfl (by decide +kernel)) (
  mA (i := 23) (ok_callV (pc := 42) (can_V cal_C_changeOrder (by decide +kernel) rfl (by decide +kernel) rfl wd_437 wd_438 wd_439 wd_35 (by decide +kernel)) rfl rfl) (
  mA (i := 24) (ok_ald_n (f := 0) (pc := 45) rfl rfl rfl (by decide +kernel)) (
  mA (i := 25) (ok_gP (pc := 46) rfl (by decide +kernel) wd_308 inw_10 rfl rfl (by decide +kernel)) (
  mA (i := 26) (ok_ald_n (f := 0) (pc := 49) rfl rfl rfl (by decide +kernel)) (
  mA (i := 27) (ok_gP (pc := 50) rfl (by decide +kernel) wd_328 inw_10 rfl rfl (by decide +kernel)) (
  mA (i := 28) (ok_callV (pc := 53) (can_V cal_Tr_grow (by decide +kernel) rfl (by decide +kernel) rfl wd_440 wd_441 wd_442 wd_269 (by decide +kernel)) rfl rfl) (
  mA (i := 29) (ok_ald_n (f := 0) (pc := 56) rfl rfl rfl (by decide +kernel)) (
  mA (i := 30) (ok_gP (pc := 57) rfl (by decide +kernel) wd_308 inw_10 rfl rfl (by decide +kernel)) (
  mA (i := 31) (ok_callI (pc := 60) (can_V cal_Tr_size (by decide +kernel) rfl (by decide +kernel) rfl wd_443 wd_444 wd_445 wd_269 (by decide +kernel)) rfl rfl) (
  mA (i := 32) (ok_iret (pc := 63) rfl rfl (by decide +kernel)) (
  mZ)))))))))))))))))))))))))))))))))
set_option maxRecDepth 20000 in
theorem ok_C_greedy : mAll (mOk RX9 cX9_greedy 4 true false (some .int) (mnat p_C_greedy)) 0 k_C_greedy := mA (i := 0) (ok_ild_n (f := 2) (pc := 0) rfl rfl rfl (by decide +kernel)) (
  mA (i := 1) (ok_callI (pc := 1) (can_S cal_C_isMode (by decide +kernel) wd_402 wd_401 wd_35 (by decide +kernel)) rfl rfl) (
  mA (i := 2) (ok_ifne (off := 6) (pc := 4) (tgt := 10) rfl rfl rfl (by decide +kernel) (by decide +kernel)) (
  mA (i := 3) (ok_bi (n := (-2)) (pc := 7) (by decide +kernel) rfl rfl (by decide +kernel)) (
  mA (i := 4) (ok_iret (pc := 9) rfl rfl (by decide +kernel)) (
  mA (i := 5) (ok_ild_n (f := 1) (pc := 10) rfl rfl rfl (by decide +kernel)) (
  mA (i := 6) (ok_iflt (off := 9) (pc := 11) (tgt := 20) rfl rfl rfl (by decide +kernel) (by decide +kernel)) (
  mA (i := 7) (ok_ild_n (f := 1) (pc := 14) rfl rfl rfl (by decide +kernel)) (
  mA (i := 8) (ok_bi (n := 8) (pc := 15) (by decide +kernel) rfl rfl (by decide +kernel)) (
  mA (i := 9) (ok_cle (off := 6) (pc := 17) (tgt := 23) rfl rfl rfl (by decide +kernel) (by decide +kernel)) (
  mA (i := 10) (ok_bi (n := (-3)) (pc := 20) (by decide +kernel) rfl rfl (by decide +kernel)) (
  mA (i := 11) (ok_iret (pc := 22) rfl rfl (by decide +kernel)) (
  mA (i := 12) (ok_ald_n (f := 0) (pc := 23) rfl rfl rfl (by decide +kernel)) (
  mA (i := 13) (ok_gP (pc := 24) rfl (by decide +kernel) wd_313 inw_10 rfl rfl (by decide +kernel)) (
  mA (i := 14) (ok_ald_n (f := 0) (pc := 27) rfl rfl rfl (by decide +kernel)) (
  mA (i := 15) (ok_gP (pc := 28) rfl (by decide +kernel) wd_328 inw_10 rfl rfl (by decide +kernel)) (
  mA (i := 16) (ok_ild_n (f := 2) (pc := 31) rfl rfl rfl (by decide +kernel)) (
  mA (i := 17) (ok_ald_n (f := 0) (pc := 32) rfl rfl rfl (by decide +kernel)) (
  mA (i := 18) (ok_gP (pc := 33) rfl (by decide +kernel) wd_332 inw_10 rfl rfl (by decide +kernel)) (
  mA (i := 19) (ok_ild_n (f := 1) (pc := 36) rfl rfl rfl (by decide +kernel)) (
  mA (i := 20) (ok_callI (pc := 37) (can_V cal_Pa_closest (by decide +kernel) rfl (by decide +kernel) rfl wd_446 wd_447 wd_448 wd_138 (by decide +kernel)) rfl rfl) (
  mA (i := 21) (ok_ist_n (f := 3) (pc := 40) rfl (by decide +kernel) rfl rfl rfl (by decide +kernel)) (
  mA (i := 22) (ok_ald_n (f := 0) (pc := 41) rfl rfl rfl (by decide +kernel)) (
  mA (i := 23) (ok_ild_n (f := 1) (pc := 42) rfl rfl rfl (by decide +kernel)) (
  mA (i := 24) (ok_callV (pc := 43) (can_V cal_C_changeOrder (by decide +kernel) rfl (by decide +kernel) rfl wd_437 wd_438 wd_439 wd_35 (by decide +kernel)) rfl rfl) (
  mA (i := 25) (ok_ild_n (f := 3) (pc := 46) rfl rfl rfl (by decide +kernel)) (
  mA (i := 26) (ok_iret (pc := 47) rfl rfl (by decide +kernel)) (
  mZ)))))))))))))))))))))))))))
set_option maxRecDepth 20000 in
theorem ok_C_lay : mAll (mOk RX9 cX9_lay 2 true false (some .int) (mnat p_C_lay)) 0 k_C_lay := mA (i := 0) (ok_ild_n (f := 1) (pc := 0) rfl rfl rfl (by decide +kernel)) (
  mA (i := 1) (ok_callI (pc := 1) (can_S cal_C_isFeature (by decide +kernel) wd_431 wd_37 wd_35 (by decide +kernel)) rfl rfl) (
  mA (i := 2) (ok_ifne (off := 6) (pc := 4) (tgt := 10) rfl rfl rfl (by decide +kernel) (by decide +kernel)) (
  mA (i := 3) (ok_bi (n := (-2)) (pc := 7) (by decide +kernel) rfl rfl (by decide +kernel)) (
  mA (i := 4) (ok_iret (pc := 9) rfl rfl (by decide +kernel)) (
  mA (i := 5) (ok_ald_n (f := 0) (pc := 10) rfl rfl rfl (by decide +kernel)) (
  mA (i := 6) (ok_gP (pc := 11) rfl (by decide +kernel) wd_328 inw_10 rfl rfl (by decide +kernel)) (
  mA (i := 7) (ok_callI (pc := 14) (can_V cal_St_laid (by decide +kernel) rfl (by decide +kernel) rfl wd_449 wd_146 wd_147 wd_80 (by decide +kernel)) rfl rfl) (
  mA (i := 8) (ok_bi (n := 8) (pc := 17) (by decide +kernel) rfl rfl (by decide +kernel)) (
  mA (i := 9) (ok_clt (off := 6) (pc := 19) (tgt := 25) rfl rfl rfl (by decide +kernel) (by decide +kernel)) (
  mA (i := 10) (ok_bi (n := (-4)) (pc := 22) (by decide +kernel) rfl rfl (by decide +kernel)) (
  mA (i := 11) (ok_iret (pc := 24) rfl rfl (by decide +kernel)) (
  mA (i := 12) (ok_ald_n (f := 0) (pc := 25) rfl rfl rfl (by decide +kernel)) (
  mA (i := 13) (ok_gP (pc := 26) rfl (by decide +kernel) wd_328 inw_10 rfl rfl (by decide +kernel)) (
  mA (i := 14) (ok_ild_n (f := 1) (pc := 29) rfl rfl rfl (by decide +kernel)) (
  mA (i := 15) (ok_callI (pc := 30) (can_V cal_St_isLaid (by decide +kernel) rfl (by decide +kernel) rfl wd_450 wd_451 wd_452 wd_80 (by decide +kernel)) rfl rfl) (
  mA (i := 16) (ok_ifeq (off := 6) (pc := 33) (tgt := 39) rfl rfl rfl (by decide +kernel) (by decide +kernel)) (
  mA (i := 17) (ok_bi (n := (-5)) (pc := 36) (by decide +kernel) rfl rfl (by decide +kernel)) (
  mA (i := 18) (ok_iret (pc := 38) rfl rfl (by decide +kernel)) (
  mA (i := 19) (ok_ald_n (f := 0) (pc := 39) rfl rfl rfl (by decide +kernel)) (
  mA (i := 20) (ok_gP (pc := 40) rfl (by decide +kernel) wd_319 inw_10 rfl rfl (by decide +kernel)) (
  mA (i := 21) (ok_ald_n (f := 0) (pc := 43) rfl rfl rfl (by decide +kernel)) (
  mA (i := 22) (ok_gP (pc := 44) rfl (by decide +kernel) wd_328 inw_10 rfl rfl (by decide +kernel)) (
  mA (i := 23) (ok_callV (pc := 47) (can_V cal_Hi_note (by decide +kernel) rfl (by decide +kernel) rfl wd_453 wd_454 wd_455 wd_316 (by decide +kernel)) rfl rfl) (
  mA (i := 24) (ok_ald_n (f := 0) (pc := 50) rfl rfl rfl (by decide +kernel)) (
  mA (i := 25) (ok_gP (pc := 51) rfl (by decide +kernel) wd_328 inw_10 rfl rfl (by decide +kernel)) (
  mA (i := 26) (ok_ild_n (f := 1) (pc := 54) rfl rfl rfl (by decide +kernel)) (
  mA (i := 27) (ok_callV (pc := 55) (can_V cal_St_append (by decide +kernel) rfl (by decide +kernel) rfl wd_456 wd_252 wd_253 wd_80 (by decide +kernel)) rfl rfl) (
  mA (i := 28) (ok_ald_n (f := 0) (pc := 58) rfl rfl rfl (by decide +kernel)) (
  mA (i := 29) (ok_gP (pc := 59) rfl (by decide +kernel) wd_328 inw_10 rfl rfl (by decide +kernel)) (
  mA (i := 30) (ok_callI (pc := 62) (can_V cal_St_laid (by decide +kernel) rfl (by decide +kernel) rfl wd_449 wd_146 wd_147 wd_80 (by decide +kernel)) rfl rfl) (
  mA (i := 31) (ok_iret (pc := 65) rfl rfl (by decide +kernel)) (
  mZ))))))))))))))))))))))))))))))))
set_option maxRecDepth 20000 in
theorem ok_C_unlay : mAll (mOk RX9 cX9_unlay 1 true false (some .int) (mnat p_C_unlay)) 0 k_C_unlay := mA (i := 0) (ok_ald_n (f := 0) (pc := 0) rfl rfl rfl (by decide +kernel)) (
  mA (i := 1) (ok_gP (pc := 1) rfl (by decide +kernel) wd_328 inw_10 rfl rfl (by decide +kernel)) (
  mA (i := 2) (ok_callI (pc := 4) (can_V cal_St_laid (by decide +kernel) rfl (by decide +kernel) rfl wd_449 wd_146 wd_147 wd_80 (by decide +kernel)) rfl rfl) (
  mA (i := 3) (ok_ifne (off := 6) (pc := 7) (tgt := 13) rfl rfl rfl (by decide +kernel) (by decide +kernel)) (
  mA (i := 4) (ok_bi (n := (-5)) (pc := 10) (by decide +kernel) rfl rfl (by decide +kernel)) (
  mA (i := 5) (ok_iret (pc := 12) rfl rfl (by decide +kernel)) (
  mA (i := 6) (ok_ald_n (f := 0) (pc := 13) rfl rfl rfl (by decide +kernel)) (
  mA (i := 7) (ok_gP (pc := 14) rfl (by decide +kernel) wd_319 inw_10 rfl rfl (by decide +kernel)) (
  mA (i := 8) (ok_ald_n (f := 0) (pc := 17) rfl rfl rfl (by decide +kernel)) (
  mA (i := 9) (ok_gP (pc := 18) rfl (by decide +kernel) wd_328 inw_10 rfl rfl (by decide +kernel)) (
  mA (i := 10) (ok_callV (pc := 21) (can_V cal_Hi_note (by decide +kernel) rfl (by decide +kernel) rfl wd_453 wd_454 wd_455 wd_316 (by decide +kernel)) rfl rfl) (
  mA (i := 11) (ok_ald_n (f := 0) (pc := 24) rfl rfl rfl (by decide +kernel)) (
  mA (i := 12) (ok_gP (pc := 25) rfl (by decide +kernel) wd_328 inw_10 rfl rfl (by decide +kernel)) (
  mA (i := 13) (ok_callV (pc := 28) (can_V cal_St_dropLast (by decide +kernel) rfl (by decide +kernel) rfl wd_457 wd_458 wd_459 wd_80 (by decide +kernel)) rfl rfl) (
  mA (i := 14) (ok_ald_n (f := 0) (pc := 31) rfl rfl rfl (by decide +kernel)) (
  mA (i := 15) (ok_gP (pc := 32) rfl (by decide +kernel) wd_328 inw_10 rfl rfl (by decide +kernel)) (
  mA (i := 16) (ok_callI (pc := 35) (can_V cal_St_laid (by decide +kernel) rfl (by decide +kernel) rfl wd_449 wd_146 wd_147 wd_80 (by decide +kernel)) rfl rfl) (
  mA (i := 17) (ok_iret (pc := 38) rfl rfl (by decide +kernel)) (
  mZ))))))))))))))))))
set_option maxRecDepth 20000 in
theorem ok_C_order : mAll (mOk RX9 cX9_order 2 true false (some .int) (mnat p_C_order)) 0 k_C_order := mA (i := 0) (ok_ald_n (f := 0) (pc := 0) rfl rfl rfl (by decide +kernel)) (
  mA (i := 1) (ok_gP (pc := 1) rfl (by decide +kernel) wd_328 inw_10 rfl rfl (by decide +kernel)) (
  mA (i := 2) (ok_ild_n (f := 1) (pc := 4) rfl rfl rfl (by decide +kernel)) (
  mA (i := 3) (ok_callI (pc := 5) (can_V cal_St_featureAt (by decide +kernel) rfl (by decide +kernel) rfl wd_460 wd_149 wd_150 wd_80 (by decide +kernel)) rfl rfl) (
  mA (i := 4) (ok_iret (pc := 8) rfl rfl (by decide +kernel)) (
  mZ)))))
set_option maxRecDepth 20000 in
theorem ok_C_nodes : mAll (mOk RX9 cX9_nodes 1 true false (some .int) (mnat p_C_nodes)) 0 k_C_nodes := mA (i := 0) (ok_ald_n (f := 0) (pc := 0) rfl rfl rfl (by decide +kernel)) (
  mA (i := 1) (ok_gP (pc := 1) rfl (by decide +kernel) wd_308 inw_10 rfl rfl (by decide +kernel)) (
  mA (i := 2) (ok_ald_n (f := 0) (pc := 4) rfl rfl rfl (by decide +kernel)) (
  mA (i := 3) (ok_gP (pc := 5) rfl (by decide +kernel) wd_328 inw_10 rfl rfl (by decide +kernel)) (
  mA (i := 4) (ok_callV (pc := 8) (can_V cal_Tr_grow (by decide +kernel) rfl (by decide +kernel) rfl wd_440 wd_441 wd_442 wd_269 (by decide +kernel)) rfl rfl) (
  mA (i := 5) (ok_ald_n (f := 0) (pc := 11) rfl rfl rfl (by decide +kernel)) (
  mA (i := 6) (ok_gP (pc := 12) rfl (by decide +kernel) wd_308 inw_10 rfl rfl (by decide +kernel)) (
  mA (i := 7) (ok_callI (pc := 15) (can_V cal_Tr_size (by decide +kernel) rfl (by decide +kernel) rfl wd_443 wd_444 wd_445 wd_269 (by decide +kernel)) rfl rfl) (
  mA (i := 8) (ok_iret (pc := 18) rfl rfl (by decide +kernel)) (
  mZ)))))))))
set_option maxRecDepth 20000 in
theorem ok_C_node : mAll (mOk RX9 cX9_node 3 true false (some .int) (mnat p_C_node)) 0 k_C_node := mA (i := 0) (ok_ald_n (f := 0) (pc := 0) rfl rfl rfl (by decide +kernel)) (
  mA (i := 1) (ok_gP (pc := 1) rfl (by decide +kernel) wd_308 inw_10 rfl rfl (by decide +kernel)) (
  mA (i := 2) (ok_ald_n (f := 0) (pc := 4) rfl rfl rfl (by decide +kernel)) (
  mA (i := 3) (ok_gP (pc := 5) rfl (by decide +kernel) wd_328 inw_10 rfl rfl (by decide +kernel)) (
  mA (i := 4) (ok_callV (pc := 8) (can_V cal_Tr_grow (by decide +kernel) rfl (by decide +kernel) rfl wd_440 wd_441 wd_442 wd_269 (by decide +kernel)) rfl rfl) (
  mA (i := 5) (ok_ild_n (f := 1) (pc := 11) rfl rfl rfl (by decide +kernel)) (
  mA (i := 6) (ok_iflt (off := 14) (pc := 12) (tgt := 26) rfl rfl rfl (by decide +kernel) (by decide +kernel)) (
  mA (i := 7) (ok_ild_n (f := 1) (pc := 15) rfl rfl rfl (by decide +kernel)) (
  mA (i := 8) (ok_ald_n (f := 0) (pc := 16) rfl rfl rfl (by decide +kernel)) (
  mA (i := 9) (ok_gP (pc := 17) rfl (by decide +kernel) wd_308 inw_10 rfl rfl (by decide +kernel)) (
  mA (i := 10) (ok_callI (pc := 20) (can_V cal_Tr_size (by decide +kernel) rfl (by decide +kernel) rfl wd_443 wd_444 wd_445 wd_269 (by decide +kernel)) rfl rfl) (
  mA (i := 11) (ok_clt (off := 6) (pc := 23) (tgt := 29) rfl rfl rfl (by decide +kernel) (by decide +kernel)) (
  mA (i := 12) (ok_bi (n := (-2)) (pc := 26) (by decide +kernel) rfl rfl (by decide +kernel)) (
  mA (i := 13) (ok_iret (pc := 28) rfl rfl (by decide +kernel)) (
  mA (i := 14) (ok_ild_n (f := 2) (pc := 29) rfl rfl rfl (by decide +kernel)) (
  mA (i := 15) (ok_tsw (lo := 0) (n := 4) (dflt := 69) (offs := #[30, 39, 48, 57]) (len := 30) (pc := 30) (by decide +kernel) rfl rfl (by decide +kernel) (by decide +kernel) (by decide +kernel) rfl (by decide +kernel)) (
  mA (i := 16) (ok_ald_n (f := 0) (pc := 60) rfl rfl rfl (by decide +kernel)) (
  mA (i := 17) (ok_gP (pc := 61) rfl (by decide +kernel) wd_308 inw_10 rfl rfl (by decide +kernel)) (
  mA (i := 18) (ok_ild_n (f := 1) (pc := 64) rfl rfl rfl (by decide +kernel)) (
  mA (i := 19) (ok_callI (pc := 65) (can_V cal_Tr_levelOf (by decide +kernel) rfl (by decide +kernel) rfl wd_461 wd_278 wd_279 wd_269 (by decide +kernel)) rfl rfl) (
  mA (i := 20) (ok_iret (pc := 68) rfl rfl (by decide +kernel)) (
  mA (i := 21) (ok_ald_n (f := 0) (pc := 69) rfl rfl rfl (by decide +kernel)) (
  mA (i := 22) (ok_gP (pc := 70) rfl (by decide +kernel) wd_308 inw_10 rfl rfl (by decide +kernel)) (
  mA (i := 23) (ok_ild_n (f := 1) (pc := 73) rfl rfl rfl (by decide +kernel)) (
  mA (i := 24) (ok_callI (pc := 74) (can_V cal_Tr_valueOf (by decide +kernel) rfl (by decide +kernel) rfl wd_462 wd_289 wd_290 wd_269 (by decide +kernel)) rfl rfl) (
  mA (i := 25) (ok_iret (pc := 77) rfl rfl (by decide +kernel)) (
  mA (i := 26) (ok_ald_n (f := 0) (pc := 78) rfl rfl rfl (by decide +kernel)) (
  mA (i := 27) (ok_gP (pc := 79) rfl (by decide +kernel) wd_308 inw_10 rfl rfl (by decide +kernel)) (
  mA (i := 28) (ok_ild_n (f := 1) (pc := 82) rfl rfl rfl (by decide +kernel)) (
  mA (i := 29) (ok_callI (pc := 83) (can_V cal_Tr_childrenOf (by decide +kernel) rfl (by decide +kernel) rfl wd_463 wd_464 wd_465 wd_269 (by decide +kernel)) rfl rfl) (
  mA (i := 30) (ok_iret (pc := 86) rfl rfl (by decide +kernel)) (
  mA (i := 31) (ok_ald_n (f := 0) (pc := 87) rfl rfl rfl (by decide +kernel)) (
  mA (i := 32) (ok_gP (pc := 88) rfl (by decide +kernel) wd_308 inw_10 rfl rfl (by decide +kernel)) (
  mA (i := 33) (ok_ild_n (f := 1) (pc := 91) rfl rfl rfl (by decide +kernel)) (
  mA (i := 34) (ok_callI (pc := 92) (can_V cal_Tr_membersOf (by decide +kernel) rfl (by decide +kernel) rfl wd_466 wd_281 wd_282 wd_269 (by decide +kernel)) rfl rfl) (
  mA (i := 35) (ok_callI (pc := 95) (can_S cal_Ji_bitCount (by decide +kernel) wd_385 wd_179 wd_180 (by decide +kernel)) rfl rfl) (
  mA (i := 36) (ok_iret (pc := 98) rfl rfl (by decide +kernel)) (
  mA (i := 37) (ok_bi (n := (-2)) (pc := 99) (by decide +kernel) rfl rfl (by decide +kernel)) (
  mA (i := 38) (ok_iret (pc := 101) rfl rfl (by decide +kernel)) (
  mZ)))))))))))))))))))))))))))))))))))))))
set_option maxRecDepth 20000 in
theorem ok_C_at : mAll (mOk RX9 cX9_at 2 true false (some .int) (mnat p_C_at)) 0 k_C_at := mA (i := 0) (ok_ald_n (f := 0) (pc := 0) rfl rfl rfl (by decide +kernel)) (
  mA (i := 1) (ok_gP (pc := 1) rfl (by decide +kernel) wd_328 inw_10 rfl rfl (by decide +kernel)) (
  mA (i := 2) (ok_ild_n (f := 1) (pc := 4) rfl rfl rfl (by decide +kernel)) (
  mA (i := 3) (ok_callP (pc := 5) (can_V cal_St_clause (by decide +kernel) rfl (by decide +kernel) rfl wd_383 wd_171 wd_172 wd_80 (by decide +kernel)) rfl rfl) (
  mA (i := 4) (ok_nonnull (off := 6) (pc := 8) (tgt := 14) rfl rfl rfl (by decide +kernel) (by decide +kernel)) (
  mA (i := 5) (ok_bi (n := (-2)) (pc := 11) (by decide +kernel) rfl rfl (by decide +kernel)) (
  mA (i := 6) (ok_iret (pc := 13) rfl rfl (by decide +kernel)) (
  mA (i := 7) (ok_ald_n (f := 0) (pc := 14) rfl rfl rfl (by decide +kernel)) (
  mA (i := 8) (ok_gP (pc := 15) rfl (by decide +kernel) wd_308 inw_10 rfl rfl (by decide +kernel)) (
  mA (i := 9) (ok_ald_n (f := 0) (pc := 18) rfl rfl rfl (by decide +kernel)) (
  mA (i := 10) (ok_gP (pc := 19) rfl (by decide +kernel) wd_328 inw_10 rfl rfl (by decide +kernel)) (
  mA (i := 11) (ok_callV (pc := 22) (can_V cal_Tr_grow (by decide +kernel) rfl (by decide +kernel) rfl wd_440 wd_441 wd_442 wd_269 (by decide +kernel)) rfl rfl) (
  mA (i := 12) (ok_ald_n (f := 0) (pc := 25) rfl rfl rfl (by decide +kernel)) (
  mA (i := 13) (ok_gP (pc := 26) rfl (by decide +kernel) wd_308 inw_10 rfl rfl (by decide +kernel)) (
  mA (i := 14) (ok_ild_n (f := 1) (pc := 29) rfl rfl rfl (by decide +kernel)) (
  mA (i := 15) (ok_ald_n (f := 0) (pc := 30) rfl rfl rfl (by decide +kernel)) (
  mA (i := 16) (ok_gP (pc := 31) rfl (by decide +kernel) wd_328 inw_10 rfl rfl (by decide +kernel)) (
  mA (i := 17) (ok_callI (pc := 34) (can_V cal_St_laid (by decide +kernel) rfl (by decide +kernel) rfl wd_449 wd_146 wd_147 wd_80 (by decide +kernel)) rfl rfl) (
  mA (i := 18) (ok_callI (pc := 37) (can_V cal_Tr_endOf (by decide +kernel) rfl (by decide +kernel) rfl wd_467 wd_468 wd_469 wd_269 (by decide +kernel)) rfl rfl) (
  mA (i := 19) (ok_iret (pc := 40) rfl rfl (by decide +kernel)) (
  mZ))))))))))))))))))))
set_option maxRecDepth 20000 in
theorem ok_C_forward : mAll (mOk RX9 cX9_forward 3 true false (some .int) (mnat p_C_forward)) 0 k_C_forward := mA (i := 0) (ok_ild_n (f := 1) (pc := 0) rfl rfl rfl (by decide +kernel)) (
  mA (i := 1) (ok_callI (pc := 1) (can_S cal_C_isMode (by decide +kernel) wd_402 wd_401 wd_35 (by decide +kernel)) rfl rfl) (
  mA (i := 2) (ok_ifne (off := 6) (pc := 4) (tgt := 10) rfl rfl rfl (by decide +kernel) (by decide +kernel)) (
  mA (i := 3) (ok_bi (n := (-2)) (pc := 7) (by decide +kernel) rfl rfl (by decide +kernel)) (
  mA (i := 4) (ok_iret (pc := 9) rfl rfl (by decide +kernel)) (
  mA (i := 5) (ok_ild_n (f := 2) (pc := 10) rfl rfl rfl (by decide +kernel)) (
  mA (i := 6) (ok_ic (n := (-1)) (pc := 11) (by decide +kernel) rfl rfl (by decide +kernel)) (
  mA (i := 7) (ok_cge (off := 8) (pc := 12) (tgt := 20) rfl rfl rfl (by decide +kernel) (by decide +kernel)) (
  mA (i := 8) (ok_bi (n := (-3)) (pc := 15) (by decide +kernel) rfl rfl (by decide +kernel)) (
  mA (i := 9) (ok_goto (off := 13) (pc := 17) (tgt := 30) rfl rfl (by decide +kernel) (by decide +kernel)) (
  mA (i := 10) (ok_ald_n (f := 0) (pc := 20) rfl rfl rfl (by decide +kernel)) (
  mA (i := 11) (ok_ic (n := 0) (pc := 21) (by decide +kernel) rfl rfl (by decide +kernel)) (
  mA (i := 12) (ok_ild_n (f := 1) (pc := 22) rfl rfl rfl (by decide +kernel)) (
  mA (i := 13) (ok_callI (pc := 23) (can_V cal_C_judged (by decide +kernel) rfl (by decide +kernel) rfl wd_470 wd_471 wd_472 wd_35 (by decide +kernel)) rfl rfl) (
  mA (i := 14) (ok_ild_n (f := 2) (pc := 26) rfl rfl rfl (by decide +kernel)) (
  mA (i := 15) (ok_callI (pc := 27) (can_S cal_C_pick (by decide +kernel) wd_474 wd_473 wd_35 (by decide +kernel)) rfl rfl) (
  mA (i := 16) (ok_iret (pc := 30) rfl rfl (by decide +kernel)) (
  mZ)))))))))))))))))
set_option maxRecDepth 20000 in
theorem ok_C_backward : mAll (mOk RX9 cX9_backward 3 true false (some .int) (mnat p_C_backward)) 0 k_C_backward := mA (i := 0) (ok_ild_n (f := 1) (pc := 0) rfl rfl rfl (by decide +kernel)) (
  mA (i := 1) (ok_callI (pc := 1) (can_S cal_C_isMode (by decide +kernel) wd_402 wd_401 wd_35 (by decide +kernel)) rfl rfl) (
  mA (i := 2) (ok_ifne (off := 6) (pc := 4) (tgt := 10) rfl rfl rfl (by decide +kernel) (by decide +kernel)) (
  mA (i := 3) (ok_bi (n := (-2)) (pc := 7) (by decide +kernel) rfl rfl (by decide +kernel)) (
  mA (i := 4) (ok_iret (pc := 9) rfl rfl (by decide +kernel)) (
  mA (i := 5) (ok_ild_n (f := 2) (pc := 10) rfl rfl rfl (by decide +kernel)) (
  mA (i := 6) (ok_ic (n := (-1)) (pc := 11) (by decide +kernel) rfl rfl (by decide +kernel)) (
  mA (i := 7) (ok_cge (off := 8) (pc := 12) (tgt := 20) rfl rfl rfl (by decide +kernel) (by decide +kernel)) (
  mA (i := 8) (ok_bi (n := (-3)) (pc := 15) (by decide +kernel) rfl rfl (by decide +kernel)) (
  mA (i := 9) (ok_goto (off := 13) (pc := 17) (tgt := 30) rfl rfl (by decide +kernel) (by decide +kernel)) (
  mA (i := 10) (ok_ald_n (f := 0) (pc := 20) rfl rfl rfl (by decide +kernel)) (
  mA (i := 11) (ok_ic (n := 1) (pc := 21) (by decide +kernel) rfl rfl (by decide +kernel)) (
  mA (i := 12) (ok_ild_n (f := 1) (pc := 22) rfl rfl rfl (by decide +kernel)) (
  mA (i := 13) (ok_callI (pc := 23) (can_V cal_C_judged (by decide +kernel) rfl (by decide +kernel) rfl wd_470 wd_471 wd_472 wd_35 (by decide +kernel)) rfl rfl) (
  mA (i := 14) (ok_ild_n (f := 2) (pc := 26) rfl rfl rfl (by decide +kernel)) (
  mA (i := 15) (ok_callI (pc := 27) (can_S cal_C_pick (by decide +kernel) wd_474 wd_473 wd_35 (by decide +kernel)) rfl rfl) (
  mA (i := 16) (ok_iret (pc := 30) rfl rfl (by decide +kernel)) (
  mZ)))))))))))))))))
set_option maxRecDepth 20000 in
theorem ok_C_visited : mAll (mOk RX9 cX9_visited 3 true false (some .int) (mnat p_C_visited)) 0 k_C_visited := mA (i := 0) (ok_ild_n (f := 1) (pc := 0) rfl rfl rfl (by decide +kernel)) (
  mA (i := 1) (ok_callI (pc := 1) (can_S cal_C_isWay (by decide +kernel) wd_476 wd_475 wd_35 (by decide +kernel)) rfl rfl) (
  mA (i := 2) (ok_ifeq (off := 10) (pc := 4) (tgt := 14) rfl rfl rfl (by decide +kernel) (by decide +kernel)) (
  mA (i := 3) (ok_ild_n (f := 2) (pc := 7) rfl rfl rfl (by decide +kernel)) (
  mA (i := 4) (ok_callI (pc := 8) (can_S cal_C_isMode (by decide +kernel) wd_402 wd_401 wd_35 (by decide +kernel)) rfl rfl) (
  mA (i := 5) (ok_ifne (off := 6) (pc := 11) (tgt := 17) rfl rfl rfl (by decide +kernel) (by decide +kernel)) (
  mA (i := 6) (ok_bi (n := (-2)) (pc := 14) (by decide +kernel) rfl rfl (by decide +kernel)) (
  mA (i := 7) (ok_iret (pc := 16) rfl rfl (by decide +kernel)) (
  mA (i := 8) (ok_ald_n (f := 0) (pc := 17) rfl rfl rfl (by decide +kernel)) (
  mA (i := 9) (ok_gP (pc := 18) rfl (by decide +kernel) wd_308 inw_10 rfl rfl (by decide +kernel)) (
  mA (i := 10) (ok_ald_n (f := 0) (pc := 21) rfl rfl rfl (by decide +kernel)) (
  mA (i := 11) (ok_gP (pc := 22) rfl (by decide +kernel) wd_328 inw_10 rfl rfl (by decide +kernel)) (
  mA (i := 12) (ok_callV (pc := 25) (can_V cal_Tr_grow (by decide +kernel) rfl (by decide +kernel) rfl wd_440 wd_441 wd_442 wd_269 (by decide +kernel)) rfl rfl) (
  mA (i := 13) (ok_ald_n (f := 0) (pc := 28) rfl rfl rfl (by decide +kernel)) (
  mA (i := 14) (ok_gP (pc := 29) rfl (by decide +kernel) wd_308 inw_10 rfl rfl (by decide +kernel)) (
  mA (i := 15) (ok_ald_n (f := 0) (pc := 32) rfl rfl rfl (by decide +kernel)) (
  mA (i := 16) (ok_gP (pc := 33) rfl (by decide +kernel) wd_328 inw_10 rfl rfl (by decide +kernel)) (
  mA (i := 17) (ok_ald_n (f := 0) (pc := 36) rfl rfl rfl (by decide +kernel)) (
  mA (i := 18) (ok_gP (pc := 37) rfl (by decide +kernel) wd_340 inw_10 rfl rfl (by decide +kernel)) (
  mA (i := 19) (ok_ild_n (f := 1) (pc := 40) rfl rfl rfl (by decide +kernel)) (
  mA (i := 20) (ok_ild_n (f := 2) (pc := 41) rfl rfl rfl (by decide +kernel)) (
  mA (i := 21) (ok_callI (pc := 42) (can_V cal_Tr_walk (by decide +kernel) rfl (by decide +kernel) rfl wd_477 wd_478 wd_479 wd_269 (by decide +kernel)) rfl rfl) (
  mA (i := 22) (ok_iret (pc := 45) rfl rfl (by decide +kernel)) (
  mZ)))))))))))))))))))))))
set_option maxRecDepth 20000 in
theorem ok_C_candidates : mAll (mOk RX9 cX9_candidates 3 true false (some .int) (mnat p_C_candidates)) 0 k_C_candidates := mA (i := 0) (ok_ild_n (f := 1) (pc := 0) rfl rfl rfl (by decide +kernel)) (
  mA (i := 1) (ok_callI (pc := 1) (can_S cal_C_isWay (by decide +kernel) wd_476 wd_475 wd_35 (by decide +kernel)) rfl rfl) (
  mA (i := 2) (ok_ifeq (off := 10) (pc := 4) (tgt := 14) rfl rfl rfl (by decide +kernel) (by decide +kernel)) (
  mA (i := 3) (ok_ild_n (f := 2) (pc := 7) rfl rfl rfl (by decide +kernel)) (
  mA (i := 4) (ok_callI (pc := 8) (can_S cal_C_isMode (by decide +kernel) wd_402 wd_401 wd_35 (by decide +kernel)) rfl rfl) (
  mA (i := 5) (ok_ifne (off := 6) (pc := 11) (tgt := 17) rfl rfl rfl (by decide +kernel) (by decide +kernel)) (
  mA (i := 6) (ok_bi (n := (-2)) (pc := 14) (by decide +kernel) rfl rfl (by decide +kernel)) (
  mA (i := 7) (ok_iret (pc := 16) rfl rfl (by decide +kernel)) (
  mA (i := 8) (ok_ald_n (f := 0) (pc := 17) rfl rfl rfl (by decide +kernel)) (
  mA (i := 9) (ok_gP (pc := 18) rfl (by decide +kernel) wd_308 inw_10 rfl rfl (by decide +kernel)) (
  mA (i := 10) (ok_ald_n (f := 0) (pc := 21) rfl rfl rfl (by decide +kernel)) (
  mA (i := 11) (ok_gP (pc := 22) rfl (by decide +kernel) wd_328 inw_10 rfl rfl (by decide +kernel)) (
  mA (i := 12) (ok_callV (pc := 25) (can_V cal_Tr_grow (by decide +kernel) rfl (by decide +kernel) rfl wd_440 wd_441 wd_442 wd_269 (by decide +kernel)) rfl rfl) (
  mA (i := 13) (ok_ald_n (f := 0) (pc := 28) rfl rfl rfl (by decide +kernel)) (
  mA (i := 14) (ok_gP (pc := 29) rfl (by decide +kernel) wd_308 inw_10 rfl rfl (by decide +kernel)) (
  mA (i := 15) (ok_ald_n (f := 0) (pc := 32) rfl rfl rfl (by decide +kernel)) (
  mA (i := 16) (ok_gP (pc := 33) rfl (by decide +kernel) wd_328 inw_10 rfl rfl (by decide +kernel)) (
  mA (i := 17) (ok_ald_n (f := 0) (pc := 36) rfl rfl rfl (by decide +kernel)) (
  mA (i := 18) (ok_gP (pc := 37) rfl (by decide +kernel) wd_340 inw_10 rfl rfl (by decide +kernel)) (
  mA (i := 19) (ok_ild_n (f := 1) (pc := 40) rfl rfl rfl (by decide +kernel)) (
  mA (i := 20) (ok_ild_n (f := 2) (pc := 41) rfl rfl rfl (by decide +kernel)) (
  mA (i := 21) (ok_callI (pc := 42) (can_V cal_Tr_walk (by decide +kernel) rfl (by decide +kernel) rfl wd_477 wd_478 wd_479 wd_269 (by decide +kernel)) rfl rfl) (
  mA (i := 22) (ok_pop (pc := 45) rfl rfl (by decide +kernel)) (
  mA (i := 23) (ok_ald_n (f := 0) (pc := 46) rfl rfl rfl (by decide +kernel)) (
  mA (i := 24) (ok_gP (pc := 47) rfl (by decide +kernel) wd_308 inw_10 rfl rfl (by decide +kernel)) (
  mA (i := 25) (ok_callI (pc := 50) (can_V cal_Tr_reachedBits (by decide +kernel) rfl (by decide +kernel) rfl wd_480 wd_481 wd_482 wd_269 (by decide +kernel)) rfl rfl) (
  mA (i := 26) (ok_iret (pc := 53) rfl rfl (by decide +kernel)) (
  mZ)))))))))))))))))))))))))))
set_option maxRecDepth 20000 in
theorem ok_C_total : mAll (mOk RX9 cX9_total 6 true false (some .int) (mnat p_C_total)) 0 k_C_total := mA (i := 0) (ok_ild_n (f := 1) (pc := 0) rfl rfl rfl (by decide +kernel)) (
  mA (i := 1) (ok_callI (pc := 1) (can_S cal_C_isWay (by decide +kernel) wd_476 wd_475 wd_35 (by decide +kernel)) rfl rfl) (
  mA (i := 2) (ok_ifeq (off := 10) (pc := 4) (tgt := 14) rfl rfl rfl (by decide +kernel) (by decide +kernel)) (
  mA (i := 3) (ok_ild_n (f := 2) (pc := 7) rfl rfl rfl (by decide +kernel)) (
  mA (i := 4) (ok_callI (pc := 8) (can_S cal_C_isMode (by decide +kernel) wd_402 wd_401 wd_35 (by decide +kernel)) rfl rfl) (
  mA (i := 5) (ok_ifne (off := 6) (pc := 11) (tgt := 17) rfl rfl rfl (by decide +kernel) (by decide +kernel)) (
  mA (i := 6) (ok_bi (n := (-2)) (pc := 14) (by decide +kernel) rfl rfl (by decide +kernel)) (
  mA (i := 7) (ok_iret (pc := 16) rfl rfl (by decide +kernel)) (
  mA (i := 8) (ok_ald_n (f := 0) (pc := 17) rfl rfl rfl (by decide +kernel)) (
  mA (i := 9) (ok_gP (pc := 18) rfl (by decide +kernel) wd_308 inw_10 rfl rfl (by decide +kernel)) (
  mA (i := 10) (ok_ald_n (f := 0) (pc := 21) rfl rfl rfl (by decide +kernel)) (
  mA (i := 11) (ok_gP (pc := 22) rfl (by decide +kernel) wd_328 inw_10 rfl rfl (by decide +kernel)) (
  mA (i := 12) (ok_callV (pc := 25) (can_V cal_Tr_grow (by decide +kernel) rfl (by decide +kernel) rfl wd_440 wd_441 wd_442 wd_269 (by decide +kernel)) rfl rfl) (
  mA (i := 13) (ok_ic (n := 0) (pc := 28) (by decide +kernel) rfl rfl (by decide +kernel)) (
  mA (i := 14) (ok_ist_n (f := 3) (pc := 29) rfl (by decide +kernel) rfl rfl rfl (by decide +kernel)) (
  mA (i := 15) (ok_ic (n := 0) (pc := 30) (by decide +kernel) rfl rfl (by decide +kernel)) (
  mA (i := 16) (ok_ist (pc := 31) (by decide +kernel) rfl rfl rfl (by decide +kernel)) (
  mA (i := 17) (ok_ild (pc := 33) rfl rfl (by decide +kernel)) (
  mA (i := 18) (ok_bi (n := 24) (pc := 35) (by decide +kernel) rfl rfl (by decide +kernel)) (
  mA (i := 19) (ok_cge (off := 43) (pc := 37) (tgt := 80) rfl rfl rfl (by decide +kernel) (by decide +kernel)) (
  mA (i := 20) (ok_ald_n (f := 0) (pc := 40) rfl rfl rfl (by decide +kernel)) (
  mA (i := 21) (ok_gP (pc := 41) rfl (by decide +kernel) wd_328 inw_10 rfl rfl (by decide +kernel)) (
  mA (i := 22) (ok_ild (pc := 44) rfl rfl (by decide +kernel)) (
  mA (i := 23) (ok_callP (pc := 46) (can_V cal_St_clause (by decide +kernel) rfl (by decide +kernel) rfl wd_383 wd_171 wd_172 wd_80 (by decide +kernel)) rfl rfl) (
  mA (i := 24) (ok_ast (pc := 49) (by decide +kernel) rfl rfl rfl (by decide +kernel)) (
  mA (i := 25) (ok_ald (pc := 51) rfl rfl (by decide +kernel)) (
  mA (i := 26) (ok_nullp (off := 21) (pc := 53) (tgt := 74) rfl rfl rfl (by decide +kernel) (by decide +kernel)) (
  mA (i := 27) (ok_ild_n (f := 3) (pc := 56) rfl rfl rfl (by decide +kernel)) (
  mA (i := 28) (ok_ald_n (f := 0) (pc := 57) rfl rfl rfl (by decide +kernel)) (
  mA (i := 29) (ok_gP (pc := 58) rfl (by decide +kernel) wd_308 inw_10 rfl rfl (by decide +kernel)) (
  mA (i := 30) (ok_ald_n (f := 0) (pc := 61) rfl rfl rfl (by decide +kernel)) (
  mA (i := 31) (ok_gP (pc := 62) rfl (by decide +kernel) wd_328 inw_10 rfl rfl (by decide +kernel)) (
  mA (i := 32) (ok_ald (pc := 65) rfl rfl (by decide +kernel)) (
  mA (i := 33) (ok_ild_n (f := 1) (pc := 67) rfl rfl rfl (by decide +kernel)) (
  mA (i := 34) (ok_ild_n (f := 2) (pc := 68) rfl rfl rfl (by decide +kernel)) (
  mA (i := 35) (ok_callI (pc := 69) (can_V cal_Tr_walk (by decide +kernel) rfl (by decide +kernel) rfl wd_477 wd_478 wd_479 wd_269 (by decide +kernel)) rfl rfl) (
  mA (i := 36) (ok_add (pc := 72) rfl rfl (by decide +kernel)) (
  mA (i := 37) (ok_ist_n (f := 3) (pc := 73) rfl (by decide +kernel) rfl rfl rfl (by decide +kernel)) (
  mA (i := 38) (ok_inc (z := 1) (pc := 74) (by decide +kernel) (by decide +kernel) rfl rfl rfl (by decide +kernel)) (
  mA (i := 39) (ok_goto (off := (-44)) (pc := 77) (tgt := 33) rfl rfl (by decide +kernel) (by decide +kernel)) (
  mA (i := 40) (ok_ild_n (f := 3) (pc := 80) rfl rfl rfl (by decide +kernel)) (
  mA (i := 41) (ok_iret (pc := 81) rfl rfl (by decide +kernel)) (
  mZ))))))))))))))))))))))))))))))))))))))))))
set_option maxRecDepth 20000 in
theorem ok_C_pairs : mAll (mOk RX9 cX9_pairs 3 true false (some .int) (mnat p_C_pairs)) 0 k_C_pairs := mA (i := 0) (ok_ild_n (f := 1) (pc := 0) rfl rfl rfl (by decide +kernel)) (
  mA (i := 1) (ok_callI (pc := 1) (can_S cal_C_isMode (by decide +kernel) wd_402 wd_401 wd_35 (by decide +kernel)) rfl rfl) (
  mA (i := 2) (ok_ifeq (off := 12) (pc := 4) (tgt := 16) rfl rfl rfl (by decide +kernel) (by decide +kernel)) (
  mA (i := 3) (ok_ild_n (f := 2) (pc := 7) rfl rfl rfl (by decide +kernel)) (
  mA (i := 4) (ok_iflt (off := 8) (pc := 8) (tgt := 16) rfl rfl rfl (by decide +kernel) (by decide +kernel)) (
  mA (i := 5) (ok_ild_n (f := 2) (pc := 11) rfl rfl rfl (by decide +kernel)) (
  mA (i := 6) (ok_ic (n := 1) (pc := 12) (by decide +kernel) rfl rfl (by decide +kernel)) (
  mA (i := 7) (ok_cle (off := 6) (pc := 13) (tgt := 19) rfl rfl rfl (by decide +kernel) (by decide +kernel)) (
  mA (i := 8) (ok_bi (n := (-2)) (pc := 16) (by decide +kernel) rfl rfl (by decide +kernel)) (
  mA (i := 9) (ok_iret (pc := 18) rfl rfl (by decide +kernel)) (
  mA (i := 10) (ok_ild_n (f := 2) (pc := 19) rfl rfl rfl (by decide +kernel)) (
  mA (i := 11) (ok_ifne (off := 18) (pc := 20) (tgt := 38) rfl rfl rfl (by decide +kernel) (by decide +kernel)) (
  mA (i := 12) (ok_ald_n (f := 0) (pc := 23) rfl rfl rfl (by decide +kernel)) (
  mA (i := 13) (ok_gP (pc := 24) rfl (by decide +kernel) wd_313 inw_10 rfl rfl (by decide +kernel)) (
  mA (i := 14) (ok_ald_n (f := 0) (pc := 27) rfl rfl rfl (by decide +kernel)) (
  mA (i := 15) (ok_gP (pc := 28) rfl (by decide +kernel) wd_328 inw_10 rfl rfl (by decide +kernel)) (
  mA (i := 16) (ok_ild_n (f := 1) (pc := 31) rfl rfl rfl (by decide +kernel)) (
  mA (i := 17) (ok_callI (pc := 32) (can_V cal_Pa_leftByOrder (by decide +kernel) rfl (by decide +kernel) rfl wd_483 wd_484 wd_485 wd_138 (by decide +kernel)) rfl rfl) (
  mA (i := 18) (ok_goto (off := 11) (pc := 35) (tgt := 46) rfl rfl (by decide +kernel) (by decide +kernel)) (
  mA (i := 19) (ok_ald_n (f := 0) (pc := 38) rfl rfl rfl (by decide +kernel)) (
  mA (i := 20) (ok_ild_n (f := 1) (pc := 39) rfl rfl rfl (by decide +kernel)) (
  mA (i := 21) (ok_callP (pc := 40) (can_V cal_C_relation (by decide +kernel) rfl (by decide +kernel) rfl wd_486 wd_487 wd_488 wd_35 (by decide +kernel)) rfl rfl) (
  mA (i := 22) (ok_callI (pc := 43) (can_V cal_Rl_size (by decide +kernel) rfl (by decide +kernel) rfl wd_489 wd_490 wd_491 wd_241 (by decide +kernel)) rfl rfl) (
  mA (i := 23) (ok_iret (pc := 46) rfl rfl (by decide +kernel)) (
  mZ))))))))))))))))))))))))
set_option maxRecDepth 20000 in
theorem ok_C_rate : mAll (mOk RX9 cX9_rate 2 true false (some .int) (mnat p_C_rate)) 0 k_C_rate := mA (i := 0) (ok_ild_n (f := 1) (pc := 0) rfl rfl rfl (by decide +kernel)) (
  mA (i := 1) (ok_callI (pc := 1) (can_S cal_C_isMode (by decide +kernel) wd_402 wd_401 wd_35 (by decide +kernel)) rfl rfl) (
  mA (i := 2) (ok_ifne (off := 6) (pc := 4) (tgt := 10) rfl rfl rfl (by decide +kernel) (by decide +kernel)) (
  mA (i := 3) (ok_bi (n := (-2)) (pc := 7) (by decide +kernel) rfl rfl (by decide +kernel)) (
  mA (i := 4) (ok_iret (pc := 9) rfl rfl (by decide +kernel)) (
  mA (i := 5) (ok_ald_n (f := 0) (pc := 10) rfl rfl rfl (by decide +kernel)) (
  mA (i := 6) (ok_ild_n (f := 1) (pc := 11) rfl rfl rfl (by decide +kernel)) (
  mA (i := 7) (ok_callP (pc := 12) (can_V cal_C_relation (by decide +kernel) rfl (by decide +kernel) rfl wd_486 wd_487 wd_488 wd_35 (by decide +kernel)) rfl rfl) (
  mA (i := 8) (ok_callI (pc := 15) (can_V cal_Rl_size (by decide +kernel) rfl (by decide +kernel) rfl wd_489 wd_490 wd_491 wd_241 (by decide +kernel)) rfl rfl) (
  mA (i := 9) (ok_ald_n (f := 0) (pc := 18) rfl rfl rfl (by decide +kernel)) (
  mA (i := 10) (ok_gP (pc := 19) rfl (by decide +kernel) wd_313 inw_10 rfl rfl (by decide +kernel)) (
  mA (i := 11) (ok_ald_n (f := 0) (pc := 22) rfl rfl rfl (by decide +kernel)) (
  mA (i := 12) (ok_gP (pc := 23) rfl (by decide +kernel) wd_328 inw_10 rfl rfl (by decide +kernel)) (
  mA (i := 13) (ok_ild_n (f := 1) (pc := 26) rfl rfl rfl (by decide +kernel)) (
  mA (i := 14) (ok_callI (pc := 27) (can_V cal_Pa_leftByOrder (by decide +kernel) rfl (by decide +kernel) rfl wd_483 wd_484 wd_485 wd_138 (by decide +kernel)) rfl rfl) (
  mA (i := 15) (ok_callI (pc := 30) (can_S cal_C_floatBits (by decide +kernel) wd_493 wd_492 wd_35 (by decide +kernel)) rfl rfl) (
  mA (i := 16) (ok_iret (pc := 33) rfl rfl (by decide +kernel)) (
  mZ)))))))))))))))))
set_option maxRecDepth 20000 in
theorem ok_C_best : mAll (mOk RX9 cX9_best 3 true false (some .int) (mnat p_C_best)) 0 k_C_best := mA (i := 0) (ok_ild_n (f := 1) (pc := 0) rfl rfl rfl (by decide +kernel)) (
  mA (i := 1) (ok_callI (pc := 1) (can_S cal_C_isMode (by decide +kernel) wd_402 wd_401 wd_35 (by decide +kernel)) rfl rfl) (
  mA (i := 2) (ok_ifeq (off := 12) (pc := 4) (tgt := 16) rfl rfl rfl (by decide +kernel) (by decide +kernel)) (
  mA (i := 3) (ok_ild_n (f := 2) (pc := 7) rfl rfl rfl (by decide +kernel)) (
  mA (i := 4) (ok_iflt (off := 8) (pc := 8) (tgt := 16) rfl rfl rfl (by decide +kernel) (by decide +kernel)) (
  mA (i := 5) (ok_ild_n (f := 2) (pc := 11) rfl rfl rfl (by decide +kernel)) (
  mA (i := 6) (ok_ic (n := 2) (pc := 12) (by decide +kernel) rfl rfl (by decide +kernel)) (
  mA (i := 7) (ok_cle (off := 6) (pc := 13) (tgt := 19) rfl rfl rfl (by decide +kernel) (by decide +kernel)) (
  mA (i := 8) (ok_bi (n := (-2)) (pc := 16) (by decide +kernel) rfl rfl (by decide +kernel)) (
  mA (i := 9) (ok_iret (pc := 18) rfl rfl (by decide +kernel)) (
  mA (i := 10) (ok_ald_n (f := 0) (pc := 19) rfl rfl rfl (by decide +kernel)) (
  mA (i := 11) (ok_gP (pc := 20) rfl (by decide +kernel) wd_313 inw_10 rfl rfl (by decide +kernel)) (
  mA (i := 12) (ok_ald_n (f := 0) (pc := 23) rfl rfl rfl (by decide +kernel)) (
  mA (i := 13) (ok_gP (pc := 24) rfl (by decide +kernel) wd_328 inw_10 rfl rfl (by decide +kernel)) (
  mA (i := 14) (ok_ild_n (f := 1) (pc := 27) rfl rfl rfl (by decide +kernel)) (
  mA (i := 15) (ok_callV (pc := 28) (can_V cal_Pa_bestTwo (by decide +kernel) rfl (by decide +kernel) rfl wd_494 wd_495 wd_496 wd_138 (by decide +kernel)) rfl rfl) (
  mA (i := 16) (ok_ild_n (f := 2) (pc := 31) rfl rfl rfl (by decide +kernel)) (
  mA (i := 17) (ok_lsw (dflt := 44) (ps := #[(0, 28), (1, 36)]) (len := 28) (pc := 32) (by decide +kernel) ⟨⟨by decide +kernel, by decide +kernel⟩, ⟨by decide +kernel, by decide +kernel⟩, trivial⟩ (by decide +kernel) rfl (by decide +kernel)) (
  mA (i := 18) (ok_ald_n (f := 0) (pc := 60) rfl rfl rfl (by decide +kernel)) (
  mA (i := 19) (ok_gP (pc := 61) rfl (by decide +kernel) wd_313 inw_10 rfl rfl (by decide +kernel)) (
  mA (i := 20) (ok_callI (pc := 64) (can_V cal_Pa_leftByTwo (by decide +kernel) rfl (by decide +kernel) rfl wd_497 wd_498 wd_499 wd_138 (by decide +kernel)) rfl rfl) (
  mA (i := 21) (ok_iret (pc := 67) rfl rfl (by decide +kernel)) (
  mA (i := 22) (ok_ald_n (f := 0) (pc := 68) rfl rfl rfl (by decide +kernel)) (
  mA (i := 23) (ok_gP (pc := 69) rfl (by decide +kernel) wd_313 inw_10 rfl rfl (by decide +kernel)) (
  mA (i := 24) (ok_callI (pc := 72) (can_V cal_Pa_lowerOfTwo (by decide +kernel) rfl (by decide +kernel) rfl wd_500 wd_501 wd_502 wd_138 (by decide +kernel)) rfl rfl) (
  mA (i := 25) (ok_iret (pc := 75) rfl rfl (by decide +kernel)) (
  mA (i := 26) (ok_ald_n (f := 0) (pc := 76) rfl rfl rfl (by decide +kernel)) (
  mA (i := 27) (ok_gP (pc := 77) rfl (by decide +kernel) wd_313 inw_10 rfl rfl (by decide +kernel)) (
  mA (i := 28) (ok_callI (pc := 80) (can_V cal_Pa_higherOfTwo (by decide +kernel) rfl (by decide +kernel) rfl wd_503 wd_504 wd_505 wd_138 (by decide +kernel)) rfl rfl) (
  mA (i := 29) (ok_iret (pc := 83) rfl rfl (by decide +kernel)) (
  mZ))))))))))))))))))))))))))))))
set_option maxRecDepth 20000 in
theorem ok_C_redundant : mAll (mOk RX9 cX9_redundant 2 true false (some .int) (mnat p_C_redundant)) 0 k_C_redundant := mA (i := 0) (ok_ild_n (f := 1) (pc := 0) rfl rfl rfl (by decide +kernel)) (
  mA (i := 1) (ok_callI (pc := 1) (can_S cal_C_isMode (by decide +kernel) wd_402 wd_401 wd_35 (by decide +kernel)) rfl rfl) (
  mA (i := 2) (ok_ifeq (off := 14) (pc := 4) (tgt := 18) rfl rfl rfl (by decide +kernel) (by decide +kernel)) (
  mA (i := 3) (ok_ald_n (f := 0) (pc := 7) rfl rfl rfl (by decide +kernel)) (
  mA (i := 4) (ok_ild_n (f := 1) (pc := 8) rfl rfl rfl (by decide +kernel)) (
  mA (i := 5) (ok_callP (pc := 9) (can_V cal_C_relation (by decide +kernel) rfl (by decide +kernel) rfl wd_486 wd_487 wd_488 wd_35 (by decide +kernel)) rfl rfl) (
  mA (i := 6) (ok_callI (pc := 12) (can_V cal_Rl_spareOnes (by decide +kernel) rfl (by decide +kernel) rfl wd_506 wd_507 wd_508 wd_241 (by decide +kernel)) rfl rfl) (
  mA (i := 7) (ok_goto (off := 5) (pc := 15) (tgt := 20) rfl rfl (by decide +kernel) (by decide +kernel)) (
  mA (i := 8) (ok_bi (n := (-2)) (pc := 18) (by decide +kernel) rfl rfl (by decide +kernel)) (
  mA (i := 9) (ok_iret (pc := 20) rfl rfl (by decide +kernel)) (
  mZ))))))))))
set_option maxRecDepth 20000 in
theorem ok_C_clean : mAll (mOk RX9 cX9_clean 3 true false (some .int) (mnat p_C_clean)) 0 k_C_clean := mA (i := 0) (ok_ild_n (f := 1) (pc := 0) rfl rfl rfl (by decide +kernel)) (
  mA (i := 1) (ok_callI (pc := 1) (can_S cal_C_isMode (by decide +kernel) wd_402 wd_401 wd_35 (by decide +kernel)) rfl rfl) (
  mA (i := 2) (ok_ifne (off := 6) (pc := 4) (tgt := 10) rfl rfl rfl (by decide +kernel) (by decide +kernel)) (
  mA (i := 3) (ok_bi (n := (-2)) (pc := 7) (by decide +kernel) rfl rfl (by decide +kernel)) (
  mA (i := 4) (ok_iret (pc := 9) rfl rfl (by decide +kernel)) (
  mA (i := 5) (ok_ald_n (f := 0) (pc := 10) rfl rfl rfl (by decide +kernel)) (
  mA (i := 6) (ok_ild_n (f := 1) (pc := 11) rfl rfl rfl (by decide +kernel)) (
  mA (i := 7) (ok_callP (pc := 12) (can_V cal_C_relation (by decide +kernel) rfl (by decide +kernel) rfl wd_486 wd_487 wd_488 wd_35 (by decide +kernel)) rfl rfl) (
  mA (i := 8) (ok_callI (pc := 15) (can_V cal_Rl_spareOnes (by decide +kernel) rfl (by decide +kernel) rfl wd_506 wd_507 wd_508 wd_241 (by decide +kernel)) rfl rfl) (
  mA (i := 9) (ok_ist_n (f := 2) (pc := 18) rfl (by decide +kernel) rfl rfl rfl (by decide +kernel)) (
  mA (i := 10) (ok_ild_n (f := 2) (pc := 19) rfl rfl rfl (by decide +kernel)) (
  mA (i := 11) (ok_ifeq (off := 26) (pc := 20) (tgt := 46) rfl rfl rfl (by decide +kernel) (by decide +kernel)) (
  mA (i := 12) (ok_ald_n (f := 0) (pc := 23) rfl rfl rfl (by decide +kernel)) (
  mA (i := 13) (ok_gP (pc := 24) rfl (by decide +kernel) wd_319 inw_10 rfl rfl (by decide +kernel)) (
  mA (i := 14) (ok_ald_n (f := 0) (pc := 27) rfl rfl rfl (by decide +kernel)) (
  mA (i := 15) (ok_gP (pc := 28) rfl (by decide +kernel) wd_328 inw_10 rfl rfl (by decide +kernel)) (
  mA (i := 16) (ok_callV (pc := 31) (can_V cal_Hi_note (by decide +kernel) rfl (by decide +kernel) rfl wd_453 wd_454 wd_455 wd_316 (by decide +kernel)) rfl rfl) (
  mA (i := 17) (ok_ald_n (f := 0) (pc := 34) rfl rfl rfl (by decide +kernel)) (
  mA (i := 18) (ok_gP (pc := 35) rfl (by decide +kernel) wd_328 inw_10 rfl rfl (by decide +kernel)) (
  mA (i := 19) (ok_ild_n (f := 2) (pc := 38) rfl rfl rfl (by decide +kernel)) (
  mA (i := 20) (ok_callV (pc := 39) (can_V cal_St_drop (by decide +kernel) rfl (by decide +kernel) rfl wd_509 wd_510 wd_511 wd_80 (by decide +kernel)) rfl rfl) (
  mA (i := 21) (ok_ald_n (f := 0) (pc := 42) rfl rfl rfl (by decide +kernel)) (
  mA (i := 22) (ok_callV (pc := 43) (can_V cal_C_forgetRelations (by decide +kernel) rfl (by decide +kernel) rfl wd_512 wd_513 wd_514 wd_35 (by decide +kernel)) rfl rfl) (
  mA (i := 23) (ok_ild_n (f := 2) (pc := 46) rfl rfl rfl (by decide +kernel)) (
  mA (i := 24) (ok_callI (pc := 47) (can_S cal_Ji_bitCount (by decide +kernel) wd_385 wd_179 wd_180 (by decide +kernel)) rfl rfl) (
  mA (i := 25) (ok_iret (pc := 50) rfl rfl (by decide +kernel)) (
  mZ))))))))))))))))))))))))))
set_option maxRecDepth 20000 in
theorem ok_C_tops : mAll (mOk RX9 cX9_tops 2 true false (some .int) (mnat p_C_tops)) 0 k_C_tops := mA (i := 0) (ok_ild_n (f := 1) (pc := 0) rfl rfl rfl (by decide +kernel)) (
  mA (i := 1) (ok_callI (pc := 1) (can_S cal_C_isMode (by decide +kernel) wd_402 wd_401 wd_35 (by decide +kernel)) rfl rfl) (
  mA (i := 2) (ok_ifeq (off := 14) (pc := 4) (tgt := 18) rfl rfl rfl (by decide +kernel) (by decide +kernel)) (
  mA (i := 3) (ok_ald_n (f := 0) (pc := 7) rfl rfl rfl (by decide +kernel)) (
  mA (i := 4) (ok_ild_n (f := 1) (pc := 8) rfl rfl rfl (by decide +kernel)) (
  mA (i := 5) (ok_callP (pc := 9) (can_V cal_C_relation (by decide +kernel) rfl (by decide +kernel) rfl wd_486 wd_487 wd_488 wd_35 (by decide +kernel)) rfl rfl) (
  mA (i := 6) (ok_callI (pc := 12) (can_V cal_Rl_mostGeneral (by decide +kernel) rfl (by decide +kernel) rfl wd_515 wd_516 wd_517 wd_241 (by decide +kernel)) rfl rfl) (
  mA (i := 7) (ok_goto (off := 5) (pc := 15) (tgt := 20) rfl rfl (by decide +kernel) (by decide +kernel)) (
  mA (i := 8) (ok_bi (n := (-2)) (pc := 18) (by decide +kernel) rfl rfl (by decide +kernel)) (
  mA (i := 9) (ok_iret (pc := 20) rfl rfl (by decide +kernel)) (
  mZ))))))))))
set_option maxRecDepth 20000 in
theorem ok_C_chain : mAll (mOk RX9 cX9_chain 5 true false (some .int) (mnat p_C_chain)) 0 k_C_chain := mA (i := 0) (ok_ild_n (f := 1) (pc := 0) rfl rfl rfl (by decide +kernel)) (
  mA (i := 1) (ok_callI (pc := 1) (can_S cal_C_isMode (by decide +kernel) wd_402 wd_401 wd_35 (by decide +kernel)) rfl rfl) (
  mA (i := 2) (ok_ifne (off := 6) (pc := 4) (tgt := 10) rfl rfl rfl (by decide +kernel) (by decide +kernel)) (
  mA (i := 3) (ok_bi (n := (-2)) (pc := 7) (by decide +kernel) rfl rfl (by decide +kernel)) (
  mA (i := 4) (ok_iret (pc := 9) rfl rfl (by decide +kernel)) (
  mA (i := 5) (ok_ild_n (f := 2) (pc := 10) rfl rfl rfl (by decide +kernel)) (
  mA (i := 6) (ok_ic (n := (-1)) (pc := 11) (by decide +kernel) rfl rfl (by decide +kernel)) (
  mA (i := 7) (ok_cge (off := 6) (pc := 12) (tgt := 18) rfl rfl rfl (by decide +kernel) (by decide +kernel)) (
  mA (i := 8) (ok_bi (n := (-3)) (pc := 15) (by decide +kernel) rfl rfl (by decide +kernel)) (
  mA (i := 9) (ok_iret (pc := 17) rfl rfl (by decide +kernel)) (
  mA (i := 10) (ok_ald_n (f := 0) (pc := 18) rfl rfl rfl (by decide +kernel)) (
  mA (i := 11) (ok_ild_n (f := 1) (pc := 19) rfl rfl rfl (by decide +kernel)) (
  mA (i := 12) (ok_callP (pc := 20) (can_V cal_C_relation (by decide +kernel) rfl (by decide +kernel) rfl wd_486 wd_487 wd_488 wd_35 (by decide +kernel)) rfl rfl) (
  mA (i := 13) (ok_ast_n (f := 3) (pc := 23) rfl (by decide +kernel) rfl rfl rfl (by decide +kernel)) (
  mA (i := 14) (ok_ald_n (f := 3) (pc := 24) rfl rfl rfl (by decide +kernel)) (
  mA (i := 15) (ok_callI (pc := 25) (can_V cal_Rl_layLongestRow (by decide +kernel) rfl (by decide +kernel) rfl wd_518 wd_519 wd_520 wd_241 (by decide +kernel)) rfl rfl) (
  mA (i := 16) (ok_ist (pc := 28) (by decide +kernel) rfl rfl rfl (by decide +kernel)) (
  mA (i := 17) (ok_ild_n (f := 2) (pc := 30) rfl rfl rfl (by decide +kernel)) (
  mA (i := 18) (ok_ic (n := (-1)) (pc := 31) (by decide +kernel) rfl rfl (by decide +kernel)) (
  mA (i := 19) (ok_cne (off := 6) (pc := 32) (tgt := 38) rfl rfl rfl (by decide +kernel) (by decide +kernel)) (
  mA (i := 20) (ok_ild (pc := 35) rfl rfl (by decide +kernel)) (
  mA (i := 21) (ok_iret (pc := 37) rfl rfl (by decide +kernel)) (
  mA (i := 22) (ok_ild_n (f := 2) (pc := 38) rfl rfl rfl (by decide +kernel)) (
  mA (i := 23) (ok_ild (pc := 39) rfl rfl (by decide +kernel)) (
  mA (i := 24) (ok_cge (off := 11) (pc := 41) (tgt := 52) rfl rfl rfl (by decide +kernel) (by decide +kernel)) (
  mA (i := 25) (ok_ald_n (f := 3) (pc := 44) rfl rfl rfl (by decide +kernel)) (
  mA (i := 26) (ok_ild_n (f := 2) (pc := 45) rfl rfl rfl (by decide +kernel)) (
  mA (i := 27) (ok_callI (pc := 46) (can_V cal_Rl_inRow (by decide +kernel) rfl (by decide +kernel) rfl wd_521 wd_522 wd_523 wd_241 (by decide +kernel)) rfl rfl) (
  mA (i := 28) (ok_goto (off := 4) (pc := 49) (tgt := 53) rfl rfl (by decide +kernel) (by decide +kernel)) (
  mA (i := 29) (ok_ic (n := (-1)) (pc := 52) (by decide +kernel) rfl rfl (by decide +kernel)) (
  mA (i := 30) (ok_iret (pc := 53) rfl rfl (by decide +kernel)) (
  mZ)))))))))))))))))))))))))))))))
set_option maxRecDepth 20000 in
theorem ok_C_parts : mAll (mOk RX9 cX9_parts 2 true false (some .int) (mnat p_C_parts)) 0 k_C_parts := mA (i := 0) (ok_ild_n (f := 1) (pc := 0) rfl rfl rfl (by decide +kernel)) (
  mA (i := 1) (ok_callI (pc := 1) (can_S cal_C_isMode (by decide +kernel) wd_402 wd_401 wd_35 (by decide +kernel)) rfl rfl) (
  mA (i := 2) (ok_ifeq (off := 14) (pc := 4) (tgt := 18) rfl rfl rfl (by decide +kernel) (by decide +kernel)) (
  mA (i := 3) (ok_ald_n (f := 0) (pc := 7) rfl rfl rfl (by decide +kernel)) (
  mA (i := 4) (ok_ild_n (f := 1) (pc := 8) rfl rfl rfl (by decide +kernel)) (
  mA (i := 5) (ok_callP (pc := 9) (can_V cal_C_relation (by decide +kernel) rfl (by decide +kernel) rfl wd_486 wd_487 wd_488 wd_35 (by decide +kernel)) rfl rfl) (
  mA (i := 6) (ok_callI (pc := 12) (can_V cal_Rl_classes (by decide +kernel) rfl (by decide +kernel) rfl wd_524 wd_525 wd_526 wd_241 (by decide +kernel)) rfl rfl) (
  mA (i := 7) (ok_goto (off := 5) (pc := 15) (tgt := 20) rfl rfl (by decide +kernel) (by decide +kernel)) (
  mA (i := 8) (ok_bi (n := (-2)) (pc := 18) (by decide +kernel) rfl rfl (by decide +kernel)) (
  mA (i := 9) (ok_iret (pc := 20) rfl rfl (by decide +kernel)) (
  mZ))))))))))
set_option maxRecDepth 20000 in
theorem ok_C_doubles : mAll (mOk RX9 cX9_doubles 3 true false (some .int) (mnat p_C_doubles)) 0 k_C_doubles := mA (i := 0) (ok_ic (n := 0) (pc := 0) (by decide +kernel) rfl rfl (by decide +kernel)) (
  mA (i := 1) (ok_ist_n (f := 1) (pc := 1) rfl (by decide +kernel) rfl rfl rfl (by decide +kernel)) (
  mA (i := 2) (ok_ic (n := 0) (pc := 2) (by decide +kernel) rfl rfl (by decide +kernel)) (
  mA (i := 3) (ok_ist_n (f := 2) (pc := 3) rfl (by decide +kernel) rfl rfl rfl (by decide +kernel)) (
  mA (i := 4) (ok_ild_n (f := 2) (pc := 4) rfl rfl rfl (by decide +kernel)) (
  mA (i := 5) (ok_bi (n := 24) (pc := 5) (by decide +kernel) rfl rfl (by decide +kernel)) (
  mA (i := 6) (ok_cge (off := 20) (pc := 7) (tgt := 27) rfl rfl rfl (by decide +kernel) (by decide +kernel)) (
  mA (i := 7) (ok_ald_n (f := 0) (pc := 10) rfl rfl rfl (by decide +kernel)) (
  mA (i := 8) (ok_ild_n (f := 2) (pc := 11) rfl rfl rfl (by decide +kernel)) (
  mA (i := 9) (ok_callI (pc := 12) (can_V cal_C_isDouble (by decide +kernel) rfl (by decide +kernel) rfl wd_527 wd_528 wd_529 wd_35 (by decide +kernel)) rfl rfl) (
  mA (i := 10) (ok_ifeq (off := 6) (pc := 15) (tgt := 21) rfl rfl rfl (by decide +kernel) (by decide +kernel)) (
  mA (i := 11) (ok_inc (z := 1) (pc := 18) (by decide +kernel) (by decide +kernel) rfl rfl rfl (by decide +kernel)) (
  mA (i := 12) (ok_inc (z := 1) (pc := 21) (by decide +kernel) (by decide +kernel) rfl rfl rfl (by decide +kernel)) (
  mA (i := 13) (ok_goto (off := (-20)) (pc := 24) (tgt := 4) rfl rfl (by decide +kernel) (by decide +kernel)) (
  mA (i := 14) (ok_ild_n (f := 1) (pc := 27) rfl rfl rfl (by decide +kernel)) (
  mA (i := 15) (ok_iret (pc := 28) rfl rfl (by decide +kernel)) (
  mZ))))))))))))))))
set_option maxRecDepth 20000 in
theorem ok_C_undo : mAll (mOk RX9 cX9_undo 2 true false (some .int) (mnat p_C_undo)) 0 k_C_undo := mA (i := 0) (ok_ild_n (f := 1) (pc := 0) rfl rfl rfl (by decide +kernel)) (
  mA (i := 1) (ok_ic (n := 1) (pc := 1) (by decide +kernel) rfl rfl (by decide +kernel)) (
  mA (i := 2) (ok_clt (off := 14) (pc := 2) (tgt := 16) rfl rfl rfl (by decide +kernel) (by decide +kernel)) (
  mA (i := 3) (ok_ild_n (f := 1) (pc := 5) rfl rfl rfl (by decide +kernel)) (
  mA (i := 4) (ok_ald_n (f := 0) (pc := 6) rfl rfl rfl (by decide +kernel)) (
  mA (i := 5) (ok_gP (pc := 7) rfl (by decide +kernel) wd_319 inw_10 rfl rfl (by decide +kernel)) (
  mA (i := 6) (ok_callI (pc := 10) (can_V cal_Hi_size (by decide +kernel) rfl (by decide +kernel) rfl wd_530 wd_531 wd_532 wd_316 (by decide +kernel)) rfl rfl) (
  mA (i := 7) (ok_cle (off := 6) (pc := 13) (tgt := 19) rfl rfl rfl (by decide +kernel) (by decide +kernel)) (
  mA (i := 8) (ok_bi (n := (-3)) (pc := 16) (by decide +kernel) rfl rfl (by decide +kernel)) (
  mA (i := 9) (ok_iret (pc := 18) rfl rfl (by decide +kernel)) (
  mA (i := 10) (ok_ald_n (f := 0) (pc := 19) rfl rfl rfl (by decide +kernel)) (
  mA (i := 11) (ok_gP (pc := 20) rfl (by decide +kernel) wd_319 inw_10 rfl rfl (by decide +kernel)) (
  mA (i := 12) (ok_ild_n (f := 1) (pc := 23) rfl rfl rfl (by decide +kernel)) (
  mA (i := 13) (ok_ald_n (f := 0) (pc := 24) rfl rfl rfl (by decide +kernel)) (
  mA (i := 14) (ok_gP (pc := 25) rfl (by decide +kernel) wd_328 inw_10 rfl rfl (by decide +kernel)) (
  mA (i := 15) (ok_callV (pc := 28) (can_V cal_Hi_goBack (by decide +kernel) rfl (by decide +kernel) rfl wd_533 wd_534 wd_535 wd_316 (by decide +kernel)) rfl rfl) (
  mA (i := 16) (ok_ald_n (f := 0) (pc := 31) rfl rfl rfl (by decide +kernel)) (
  mA (i := 17) (ok_callV (pc := 32) (can_V cal_C_forgetRelations (by decide +kernel) rfl (by decide +kernel) rfl wd_512 wd_513 wd_514 wd_35 (by decide +kernel)) rfl rfl) (
  mA (i := 18) (ok_ald_n (f := 0) (pc := 35) rfl rfl rfl (by decide +kernel)) (
  mA (i := 19) (ok_gP (pc := 36) rfl (by decide +kernel) wd_319 inw_10 rfl rfl (by decide +kernel)) (
  mA (i := 20) (ok_callI (pc := 39) (can_V cal_Hi_size (by decide +kernel) rfl (by decide +kernel) rfl wd_530 wd_531 wd_532 wd_316 (by decide +kernel)) rfl rfl) (
  mA (i := 21) (ok_iret (pc := 42) rfl rfl (by decide +kernel)) (
  mZ))))))))))))))))))))))
set_option maxRecDepth 20000 in
theorem ok_C_image : mAll (mOk RX9 cX9_image 2 true false (some .int) (mnat p_C_image)) 0 k_C_image := mA (i := 0) (ok_ild_n (f := 1) (pc := 0) rfl rfl rfl (by decide +kernel)) (
  mA (i := 1) (ok_iflt (off := 8) (pc := 1) (tgt := 9) rfl rfl rfl (by decide +kernel) (by decide +kernel)) (
  mA (i := 2) (ok_ild_n (f := 1) (pc := 4) rfl rfl rfl (by decide +kernel)) (
  mA (i := 3) (ok_ic (n := 2) (pc := 5) (by decide +kernel) rfl rfl (by decide +kernel)) (
  mA (i := 4) (ok_clt (off := 6) (pc := 6) (tgt := 12) rfl rfl rfl (by decide +kernel) (by decide +kernel)) (
  mA (i := 5) (ok_bi (n := (-2)) (pc := 9) (by decide +kernel) rfl rfl (by decide +kernel)) (
  mA (i := 6) (ok_iret (pc := 11) rfl rfl (by decide +kernel)) (
  mA (i := 7) (ok_ald_n (f := 0) (pc := 12) rfl rfl rfl (by decide +kernel)) (
  mA (i := 8) (ok_gP (pc := 13) rfl (by decide +kernel) wd_329 inw_10 rfl rfl (by decide +kernel)) (
  mA (i := 9) (ok_ild_n (f := 1) (pc := 16) rfl rfl rfl (by decide +kernel)) (
  mA (i := 10) (ok_aald (pc := 17) (Or.inr ⟨rfl, rfl, rfl⟩) rfl rfl (by decide +kernel)) (
  mA (i := 11) (ok_ald_n (f := 0) (pc := 18) rfl rfl rfl (by decide +kernel)) (
  mA (i := 12) (ok_gP (pc := 19) rfl (by decide +kernel) wd_328 inw_10 rfl rfl (by decide +kernel)) (
  mA (i := 13) (ok_callV (pc := 22) (can_V cal_St_copy (by decide +kernel) rfl (by decide +kernel) rfl wd_536 wd_86 wd_87 wd_80 (by decide +kernel)) rfl rfl) (
  mA (i := 14) (ok_ald_n (f := 0) (pc := 25) rfl rfl rfl (by decide +kernel)) (
  mA (i := 15) (ok_gP (pc := 26) rfl (by decide +kernel) wd_331 inw_10 rfl rfl (by decide +kernel)) (
  mA (i := 16) (ok_ild_n (f := 1) (pc := 29) rfl rfl rfl (by decide +kernel)) (
  mA (i := 17) (ok_ald_n (f := 0) (pc := 30) rfl rfl rfl (by decide +kernel)) (
  mA (i := 18) (ok_gP (pc := 31) rfl (by decide +kernel) wd_340 inw_10 rfl rfl (by decide +kernel)) (
  mA (i := 19) (ok_aast (pc := 34) (Or.inl ⟨rfl, rfl, rfl, rfl⟩) rfl rfl (by decide +kernel)) (
  mA (i := 20) (ok_ic (n := 0) (pc := 35) (by decide +kernel) rfl rfl (by decide +kernel)) (
  mA (i := 21) (ok_iret (pc := 36) rfl rfl (by decide +kernel)) (
  mZ))))))))))))))))))))))
set_option maxRecDepth 20000 in
theorem ok_C_restore : mAll (mOk RX9 cX9_restore 2 true false (some .int) (mnat p_C_restore)) 0 k_C_restore := mA (i := 0) (ok_ild_n (f := 1) (pc := 0) rfl rfl rfl (by decide +kernel)) (
  mA (i := 1) (ok_iflt (off := 8) (pc := 1) (tgt := 9) rfl rfl rfl (by decide +kernel) (by decide +kernel)) (
  mA (i := 2) (ok_ild_n (f := 1) (pc := 4) rfl rfl rfl (by decide +kernel)) (
  mA (i := 3) (ok_ic (n := 2) (pc := 5) (by decide +kernel) rfl rfl (by decide +kernel)) (
  mA (i := 4) (ok_clt (off := 6) (pc := 6) (tgt := 12) rfl rfl rfl (by decide +kernel) (by decide +kernel)) (
  mA (i := 5) (ok_bi (n := (-2)) (pc := 9) (by decide +kernel) rfl rfl (by decide +kernel)) (
  mA (i := 6) (ok_iret (pc := 11) rfl rfl (by decide +kernel)) (
  mA (i := 7) (ok_ald_n (f := 0) (pc := 12) rfl rfl rfl (by decide +kernel)) (
  mA (i := 8) (ok_gP (pc := 13) rfl (by decide +kernel) wd_331 inw_10 rfl rfl (by decide +kernel)) (
  mA (i := 9) (ok_ild_n (f := 1) (pc := 16) rfl rfl rfl (by decide +kernel)) (
  mA (i := 10) (ok_aald (pc := 17) (Or.inl ⟨rfl, rfl, rfl⟩) rfl rfl (by decide +kernel)) (
  mA (i := 11) (ok_nonnull (off := 6) (pc := 18) (tgt := 24) rfl rfl rfl (by decide +kernel) (by decide +kernel)) (
  mA (i := 12) (ok_bi (n := (-6)) (pc := 21) (by decide +kernel) rfl rfl (by decide +kernel)) (
  mA (i := 13) (ok_iret (pc := 23) rfl rfl (by decide +kernel)) (
  mA (i := 14) (ok_ald_n (f := 0) (pc := 24) rfl rfl rfl (by decide +kernel)) (
  mA (i := 15) (ok_gP (pc := 25) rfl (by decide +kernel) wd_328 inw_10 rfl rfl (by decide +kernel)) (
  mA (i := 16) (ok_ald_n (f := 0) (pc := 28) rfl rfl rfl (by decide +kernel)) (
  mA (i := 17) (ok_gP (pc := 29) rfl (by decide +kernel) wd_329 inw_10 rfl rfl (by decide +kernel)) (
  mA (i := 18) (ok_ild_n (f := 1) (pc := 32) rfl rfl rfl (by decide +kernel)) (
  mA (i := 19) (ok_aald (pc := 33) (Or.inr ⟨rfl, rfl, rfl⟩) rfl rfl (by decide +kernel)) (
  mA (i := 20) (ok_callV (pc := 34) (can_V cal_St_copy (by decide +kernel) rfl (by decide +kernel) rfl wd_536 wd_86 wd_87 wd_80 (by decide +kernel)) rfl rfl) (
  mA (i := 21) (ok_ald_n (f := 0) (pc := 37) rfl rfl rfl (by decide +kernel)) (
  mA (i := 22) (ok_ald_n (f := 0) (pc := 38) rfl rfl rfl (by decide +kernel)) (
  mA (i := 23) (ok_gP (pc := 39) rfl (by decide +kernel) wd_331 inw_10 rfl rfl (by decide +kernel)) (
  mA (i := 24) (ok_ild_n (f := 1) (pc := 42) rfl rfl rfl (by decide +kernel)) (
  mA (i := 25) (ok_aald (pc := 43) (Or.inl ⟨rfl, rfl, rfl⟩) rfl rfl (by decide +kernel)) (
  mA (i := 26) (ok_pP (pc := 44) rfl (by decide +kernel) wd_340 inw_10 tyX9_ok nmX9 rfl (tyX9_ok 13 (by decide +kernel)) rfl rfl rfl (by decide +kernel)) (
  mA (i := 27) (ok_ald_n (f := 0) (pc := 47) rfl rfl rfl (by decide +kernel)) (
  mA (i := 28) (ok_gP (pc := 48) rfl (by decide +kernel) wd_319 inw_10 rfl rfl (by decide +kernel)) (
  mA (i := 29) (ok_callV (pc := 51) (can_V cal_Hi_forget (by decide +kernel) rfl (by decide +kernel) rfl wd_537 wd_538 wd_539 wd_316 (by decide +kernel)) rfl rfl) (
  mA (i := 30) (ok_ald_n (f := 0) (pc := 54) rfl rfl rfl (by decide +kernel)) (
  mA (i := 31) (ok_callV (pc := 55) (can_V cal_C_forgetRelations (by decide +kernel) rfl (by decide +kernel) rfl wd_512 wd_513 wd_514 wd_35 (by decide +kernel)) rfl rfl) (
  mA (i := 32) (ok_ic (n := 0) (pc := 58) (by decide +kernel) rfl rfl (by decide +kernel)) (
  mA (i := 33) (ok_iret (pc := 59) rfl rfl (by decide +kernel)) (
  mZ))))))))))))))))))))))))))))))))))
set_option maxRecDepth 20000 in
theorem ok_C_count : mAll (mOk RX9 cX9_count 2 true false (some .int) (mnat p_C_count)) 0 k_C_count := mA (i := 0) (ok_ild_n (f := 1) (pc := 0) rfl rfl rfl (by decide +kernel)) (
  mA (i := 1) (ok_tsw (lo := 0) (n := 6) (dflt := 90) (offs := #[39, 50, 58, 66, 74, 82]) (len := 39) (pc := 1) (by decide +kernel) rfl rfl (by decide +kernel) (by decide +kernel) (by decide +kernel) rfl (by decide +kernel)) (
  mA (i := 2) (ok_ald_n (f := 0) (pc := 40) rfl rfl rfl (by decide +kernel)) (
  mA (i := 3) (ok_gP (pc := 41) rfl (by decide +kernel) wd_328 inw_10 rfl rfl (by decide +kernel)) (
  mA (i := 4) (ok_callI (pc := 44) (can_V cal_St_numbers (by decide +kernel) rfl (by decide +kernel) rfl wd_384 wd_177 wd_178 wd_80 (by decide +kernel)) rfl rfl) (
  mA (i := 5) (ok_callI (pc := 47) (can_S cal_Ji_bitCount (by decide +kernel) wd_385 wd_179 wd_180 (by decide +kernel)) rfl rfl) (
  mA (i := 6) (ok_iret (pc := 50) rfl rfl (by decide +kernel)) (
  mA (i := 7) (ok_ald_n (f := 0) (pc := 51) rfl rfl rfl (by decide +kernel)) (
  mA (i := 8) (ok_gP (pc := 52) rfl (by decide +kernel) wd_328 inw_10 rfl rfl (by decide +kernel)) (
  mA (i := 9) (ok_callI (pc := 55) (can_V cal_St_numbers (by decide +kernel) rfl (by decide +kernel) rfl wd_384 wd_177 wd_178 wd_80 (by decide +kernel)) rfl rfl) (
  mA (i := 10) (ok_iret (pc := 58) rfl rfl (by decide +kernel)) (
  mA (i := 11) (ok_ald_n (f := 0) (pc := 59) rfl rfl rfl (by decide +kernel)) (
  mA (i := 12) (ok_gP (pc := 60) rfl (by decide +kernel) wd_340 inw_10 rfl rfl (by decide +kernel)) (
  mA (i := 13) (ok_callI (pc := 63) (can_V cal_Cl_symbols (by decide +kernel) rfl (by decide +kernel) rfl wd_391 wd_58 wd_59 wd_24 (by decide +kernel)) rfl rfl) (
  mA (i := 14) (ok_iret (pc := 66) rfl rfl (by decide +kernel)) (
  mA (i := 15) (ok_ald_n (f := 0) (pc := 67) rfl rfl rfl (by decide +kernel)) (
  mA (i := 16) (ok_gP (pc := 68) rfl (by decide +kernel) wd_328 inw_10 rfl rfl (by decide +kernel)) (
  mA (i := 17) (ok_callI (pc := 71) (can_V cal_St_laid (by decide +kernel) rfl (by decide +kernel) rfl wd_449 wd_146 wd_147 wd_80 (by decide +kernel)) rfl rfl) (
  mA (i := 18) (ok_iret (pc := 74) rfl rfl (by decide +kernel)) (
  mA (i := 19) (ok_ald_n (f := 0) (pc := 75) rfl rfl rfl (by decide +kernel)) (
  mA (i := 20) (ok_gP (pc := 76) rfl (by decide +kernel) wd_319 inw_10 rfl rfl (by decide +kernel)) (
  mA (i := 21) (ok_callI (pc := 79) (can_V cal_Hi_size (by decide +kernel) rfl (by decide +kernel) rfl wd_530 wd_531 wd_532 wd_316 (by decide +kernel)) rfl rfl) (
  mA (i := 22) (ok_iret (pc := 82) rfl rfl (by decide +kernel)) (
  mA (i := 23) (ok_ald_n (f := 0) (pc := 83) rfl rfl rfl (by decide +kernel)) (
  mA (i := 24) (ok_gP (pc := 84) rfl (by decide +kernel) wd_298 inw_10 rfl rfl (by decide +kernel)) (
  mA (i := 25) (ok_callI (pc := 87) (can_V cal_Re_onTape (by decide +kernel) rfl (by decide +kernel) rfl wd_341 wd_342 wd_343 wd_195 (by decide +kernel)) rfl rfl) (
  mA (i := 26) (ok_iret (pc := 90) rfl rfl (by decide +kernel)) (
  mA (i := 27) (ok_ic (n := (-1)) (pc := 91) (by decide +kernel) rfl rfl (by decide +kernel)) (
  mA (i := 28) (ok_iret (pc := 92) rfl rfl (by decide +kernel)) (
  mZ)))))))))))))))))))))))))))))
set_option maxRecDepth 20000 in
theorem ok_C_isMode : mAll (mOk RX9 cX9_isMode 1 true false (some .boolean) (mnat p_C_isMode)) 0 k_C_isMode := mA (i := 0) (ok_ild_n (f := 0) (pc := 0) rfl rfl rfl (by decide +kernel)) (
  mA (i := 1) (ok_ifeq (off := 8) (pc := 1) (tgt := 9) rfl rfl rfl (by decide +kernel) (by decide +kernel)) (
  mA (i := 2) (ok_ild_n (f := 0) (pc := 4) rfl rfl rfl (by decide +kernel)) (
  mA (i := 3) (ok_ic (n := 1) (pc := 5) (by decide +kernel) rfl rfl (by decide +kernel)) (
  mA (i := 4) (ok_cne (off := 7) (pc := 6) (tgt := 13) rfl rfl rfl (by decide +kernel) (by decide +kernel)) (
  mA (i := 5) (ok_ic (n := 1) (pc := 9) (by decide +kernel) rfl rfl (by decide +kernel)) (
  mA (i := 6) (ok_goto (off := 4) (pc := 10) (tgt := 14) rfl rfl (by decide +kernel) (by decide +kernel)) (
  mA (i := 7) (ok_ic (n := 0) (pc := 13) (by decide +kernel) rfl rfl (by decide +kernel)) (
  mA (i := 8) (ok_zret (pc := 14) rfl rfl (by decide +kernel)) (
  mZ)))))))))
set_option maxRecDepth 20000 in
theorem ok_C_isWay : mAll (mOk RX9 cX9_isWay 1 true false (some .boolean) (mnat p_C_isWay)) 0 k_C_isWay := mA (i := 0) (ok_ild_n (f := 0) (pc := 0) rfl rfl rfl (by decide +kernel)) (
  mA (i := 1) (ok_ifeq (off := 8) (pc := 1) (tgt := 9) rfl rfl rfl (by decide +kernel) (by decide +kernel)) (
  mA (i := 2) (ok_ild_n (f := 0) (pc := 4) rfl rfl rfl (by decide +kernel)) (
  mA (i := 3) (ok_ic (n := 1) (pc := 5) (by decide +kernel) rfl rfl (by decide +kernel)) (
  mA (i := 4) (ok_cne (off := 7) (pc := 6) (tgt := 13) rfl rfl rfl (by decide +kernel) (by decide +kernel)) (
  mA (i := 5) (ok_ic (n := 1) (pc := 9) (by decide +kernel) rfl rfl (by decide +kernel)) (
  mA (i := 6) (ok_goto (off := 4) (pc := 10) (tgt := 14) rfl rfl (by decide +kernel) (by decide +kernel)) (
  mA (i := 7) (ok_ic (n := 0) (pc := 13) (by decide +kernel) rfl rfl (by decide +kernel)) (
  mA (i := 8) (ok_zret (pc := 14) rfl rfl (by decide +kernel)) (
  mZ)))))))))
set_option maxRecDepth 20000 in
theorem ok_C_isFeature : mAll (mOk RX9 cX9_isFeature 1 true false (some .boolean) (mnat p_C_isFeature)) 0 k_C_isFeature := mA (i := 0) (ok_ild_n (f := 0) (pc := 0) rfl rfl rfl (by decide +kernel)) (
  mA (i := 1) (ok_iflt (off := 13) (pc := 1) (tgt := 14) rfl rfl rfl (by decide +kernel) (by decide +kernel)) (
  mA (i := 2) (ok_ild_n (f := 0) (pc := 4) rfl rfl rfl (by decide +kernel)) (
  mA (i := 3) (ok_bi (n := 40) (pc := 5) (by decide +kernel) rfl rfl (by decide +kernel)) (
  mA (i := 4) (ok_cge (off := 7) (pc := 7) (tgt := 14) rfl rfl rfl (by decide +kernel) (by decide +kernel)) (
  mA (i := 5) (ok_ic (n := 1) (pc := 10) (by decide +kernel) rfl rfl (by decide +kernel)) (
  mA (i := 6) (ok_goto (off := 4) (pc := 11) (tgt := 15) rfl rfl (by decide +kernel) (by decide +kernel)) (
  mA (i := 7) (ok_ic (n := 0) (pc := 14) (by decide +kernel) rfl rfl (by decide +kernel)) (
  mA (i := 8) (ok_zret (pc := 15) rfl rfl (by decide +kernel)) (
  mZ)))))))))
set_option maxRecDepth 20000 in
theorem ok_C_byMode : mAll (mOk RX9 cX9_byMode 3 true false (some .int) (mnat p_C_byMode)) 0 k_C_byMode := mA (i := 0) (ok_ild_n (f := 2) (pc := 0) rfl rfl rfl (by decide +kernel)) (
  mA (i := 1) (ok_ifne (off := 18) (pc := 1) (tgt := 19) rfl rfl rfl (by decide +kernel) (by decide +kernel)) (
  mA (i := 2) (ok_ild_n (f := 0) (pc := 4) rfl rfl rfl (by decide +kernel)) (
  mA (i := 3) (ok_bi (n := 24) (pc := 5) (by decide +kernel) rfl rfl (by decide +kernel)) (
  mA (i := 4) (ok_cge (off := 12) (pc := 7) (tgt := 19) rfl rfl rfl (by decide +kernel) (by decide +kernel)) (
  mA (i := 5) (ok_ild_n (f := 1) (pc := 10) rfl rfl rfl (by decide +kernel)) (
  mA (i := 6) (ok_ic (n := 1) (pc := 11) (by decide +kernel) rfl rfl (by decide +kernel)) (
  mA (i := 7) (ok_cle (off := 7) (pc := 12) (tgt := 19) rfl rfl rfl (by decide +kernel) (by decide +kernel)) (
  mA (i := 8) (ok_ic (n := 1) (pc := 15) (by decide +kernel) rfl rfl (by decide +kernel)) (
  mA (i := 9) (ok_goto (off := 4) (pc := 16) (tgt := 20) rfl rfl (by decide +kernel) (by decide +kernel)) (
  mA (i := 10) (ok_ild_n (f := 1) (pc := 19) rfl rfl rfl (by decide +kernel)) (
  mA (i := 11) (ok_iret (pc := 20) rfl rfl (by decide +kernel)) (
  mZ))))))))))))
set_option maxRecDepth 20000 in
theorem ok_C_isVariable : mAll (mOk RX9 cX9_isVariable 1 true false (some .boolean) (mnat p_C_isVariable)) 0 k_C_isVariable := mA (i := 0) (ok_ild_n (f := 0) (pc := 0) rfl rfl rfl (by decide +kernel)) (
  mA (i := 1) (ok_bi (n := 20) (pc := 1) (by decide +kernel) rfl rfl (by decide +kernel)) (
  mA (i := 2) (ok_clt (off := 13) (pc := 3) (tgt := 16) rfl rfl rfl (by decide +kernel) (by decide +kernel)) (
  mA (i := 3) (ok_ild_n (f := 0) (pc := 6) rfl rfl rfl (by decide +kernel)) (
  mA (i := 4) (ok_bi (n := 26) (pc := 7) (by decide +kernel) rfl rfl (by decide +kernel)) (
  mA (i := 5) (ok_cge (off := 7) (pc := 9) (tgt := 16) rfl rfl rfl (by decide +kernel) (by decide +kernel)) (
  mA (i := 6) (ok_ic (n := 1) (pc := 12) (by decide +kernel) rfl rfl (by decide +kernel)) (
  mA (i := 7) (ok_goto (off := 4) (pc := 13) (tgt := 17) rfl rfl (by decide +kernel) (by decide +kernel)) (
  mA (i := 8) (ok_ic (n := 0) (pc := 16) (by decide +kernel) rfl rfl (by decide +kernel)) (
  mA (i := 9) (ok_zret (pc := 17) rfl rfl (by decide +kernel)) (
  mZ))))))))))
set_option maxRecDepth 20000 in
theorem ok_C_termsBehind : mAll (mOk RX9 cX9_termsBehind 1 true false (some .int) (mnat p_C_termsBehind)) 0 k_C_termsBehind := mA (i := 0) (ok_ild_n (f := 0) (pc := 0) rfl rfl rfl (by decide +kernel)) (
  mA (i := 1) (ok_iflt (off := 8) (pc := 1) (tgt := 9) rfl rfl rfl (by decide +kernel) (by decide +kernel)) (
  mA (i := 2) (ok_ild_n (f := 0) (pc := 4) rfl rfl rfl (by decide +kernel)) (
  mA (i := 3) (ok_ic (n := 3) (pc := 5) (by decide +kernel) rfl rfl (by decide +kernel)) (
  mA (i := 4) (ok_clt (off := 5) (pc := 6) (tgt := 11) rfl rfl rfl (by decide +kernel) (by decide +kernel)) (
  mA (i := 5) (ok_ic (n := 0) (pc := 9) (by decide +kernel) rfl rfl (by decide +kernel)) (
  mA (i := 6) (ok_iret (pc := 10) rfl rfl (by decide +kernel)) (
  mA (i := 7) (ok_ild_n (f := 0) (pc := 11) rfl rfl rfl (by decide +kernel)) (
  mA (i := 8) (ok_ic (n := 2) (pc := 12) (by decide +kernel) rfl rfl (by decide +kernel)) (
  mA (i := 9) (ok_cne (off := 7) (pc := 13) (tgt := 20) rfl rfl rfl (by decide +kernel) (by decide +kernel)) (
  mA (i := 10) (ok_ic (n := 2) (pc := 16) (by decide +kernel) rfl rfl (by decide +kernel)) (
  mA (i := 11) (ok_goto (off := 4) (pc := 17) (tgt := 21) rfl rfl (by decide +kernel) (by decide +kernel)) (
  mA (i := 12) (ok_ic (n := 1) (pc := 20) (by decide +kernel) rfl rfl (by decide +kernel)) (
  mA (i := 13) (ok_iret (pc := 21) rfl rfl (by decide +kernel)) (
  mZ))))))))))))))
set_option maxRecDepth 20000 in
theorem ok_C_clauseOf : mAll (mOk RX9 cX9_clauseOf 2 true false (some (.object "ClauseIndex$Clause")) (mnat p_C_clauseOf)) 0 k_C_clauseOf := mA (i := 0) (ok_ild_n (f := 1) (pc := 0) rfl rfl rfl (by decide +kernel)) (
  mA (i := 1) (ok_bi (n := 24) (pc := 1) (by decide +kernel) rfl rfl (by decide +kernel)) (
  mA (i := 2) (ok_cne (off := 10) (pc := 3) (tgt := 13) rfl rfl rfl (by decide +kernel) (by decide +kernel)) (
  mA (i := 3) (ok_ald_n (f := 0) (pc := 6) rfl rfl rfl (by decide +kernel)) (
  mA (i := 4) (ok_gP (pc := 7) rfl (by decide +kernel) wd_340 inw_10 rfl rfl (by decide +kernel)) (
  mA (i := 5) (ok_goto (off := 11) (pc := 10) (tgt := 21) rfl rfl (by decide +kernel) (by decide +kernel)) (
  mA (i := 6) (ok_ald_n (f := 0) (pc := 13) rfl rfl rfl (by decide +kernel)) (
  mA (i := 7) (ok_gP (pc := 14) rfl (by decide +kernel) wd_328 inw_10 rfl rfl (by decide +kernel)) (
  mA (i := 8) (ok_ild_n (f := 1) (pc := 17) rfl rfl rfl (by decide +kernel)) (
  mA (i := 9) (ok_callP (pc := 18) (can_V cal_St_clause (by decide +kernel) rfl (by decide +kernel) rfl wd_383 wd_171 wd_172 wd_80 (by decide +kernel)) rfl rfl) (
  mA (i := 10) (ok_aret (pc := 21) (Or.inl ⟨_, rfl⟩) rfl (by decide +kernel)) (
  mZ)))))))))))
set_option maxRecDepth 20000 in
theorem ok_C_change : mAll (mOk RX9 cX9_change 3 true false none (mnat p_C_change)) 0 k_C_change := mA (i := 0) (ok_ald_n (f := 0) (pc := 0) rfl rfl rfl (by decide +kernel)) (
  mA (i := 1) (ok_gP (pc := 1) rfl (by decide +kernel) wd_319 inw_10 rfl rfl (by decide +kernel)) (
  mA (i := 2) (ok_ald_n (f := 0) (pc := 4) rfl rfl rfl (by decide +kernel)) (
  mA (i := 3) (ok_gP (pc := 5) rfl (by decide +kernel) wd_328 inw_10 rfl rfl (by decide +kernel)) (
  mA (i := 4) (ok_callV (pc := 8) (can_V cal_Hi_note (by decide +kernel) rfl (by decide +kernel) rfl wd_453 wd_454 wd_455 wd_316 (by decide +kernel)) rfl rfl) (
  mA (i := 5) (ok_ald_n (f := 0) (pc := 11) rfl rfl rfl (by decide +kernel)) (
  mA (i := 6) (ok_gP (pc := 12) rfl (by decide +kernel) wd_328 inw_10 rfl rfl (by decide +kernel)) (
  mA (i := 7) (ok_ild_n (f := 1) (pc := 15) rfl rfl rfl (by decide +kernel)) (
  mA (i := 8) (ok_ald_n (f := 2) (pc := 16) rfl rfl rfl (by decide +kernel)) (
  mA (i := 9) (ok_callV (pc := 17) (can_V cal_St_store (by decide +kernel) rfl (by decide +kernel) rfl wd_540 wd_541 wd_542 wd_80 (by decide +kernel)) rfl rfl) (
  mA (i := 10) (ok_ald_n (f := 0) (pc := 20) rfl rfl rfl (by decide +kernel)) (
  mA (i := 11) (ok_callV (pc := 21) (can_V cal_C_forgetRelations (by decide +kernel) rfl (by decide +kernel) rfl wd_512 wd_513 wd_514 wd_35 (by decide +kernel)) rfl rfl) (
  mA (i := 12) (ok_vret (pc := 24) rfl rfl (by decide +kernel)) (
  mZ)))))))))))))
set_option maxRecDepth 20000 in
theorem ok_C_changeOrder : mAll (mOk RX9 cX9_changeOrder 2 true false none (mnat p_C_changeOrder)) 0 k_C_changeOrder := mA (i := 0) (ok_ald_n (f := 0) (pc := 0) rfl rfl rfl (by decide +kernel)) (
  mA (i := 1) (ok_gP (pc := 1) rfl (by decide +kernel) wd_328 inw_10 rfl rfl (by decide +kernel)) (
  mA (i := 2) (ok_ald_n (f := 0) (pc := 4) rfl rfl rfl (by decide +kernel)) (
  mA (i := 3) (ok_gP (pc := 5) rfl (by decide +kernel) wd_332 inw_10 rfl rfl (by decide +kernel)) (
  mA (i := 4) (ok_ild_n (f := 1) (pc := 8) rfl rfl rfl (by decide +kernel)) (
  mA (i := 5) (ok_callI (pc := 9) (can_V cal_St_isOrder (by decide +kernel) rfl (by decide +kernel) rfl wd_543 wd_544 wd_545 wd_80 (by decide +kernel)) rfl rfl) (
  mA (i := 6) (ok_ifne (off := 26) (pc := 12) (tgt := 38) rfl rfl rfl (by decide +kernel) (by decide +kernel)) (
  mA (i := 7) (ok_ald_n (f := 0) (pc := 15) rfl rfl rfl (by decide +kernel)) (
  mA (i := 8) (ok_gP (pc := 16) rfl (by decide +kernel) wd_319 inw_10 rfl rfl (by decide +kernel)) (
  mA (i := 9) (ok_ald_n (f := 0) (pc := 19) rfl rfl rfl (by decide +kernel)) (
  mA (i := 10) (ok_gP (pc := 20) rfl (by decide +kernel) wd_328 inw_10 rfl rfl (by decide +kernel)) (
  mA (i := 11) (ok_callV (pc := 23) (can_V cal_Hi_note (by decide +kernel) rfl (by decide +kernel) rfl wd_453 wd_454 wd_455 wd_316 (by decide +kernel)) rfl rfl) (
  mA (i := 12) (ok_ald_n (f := 0) (pc := 26) rfl rfl rfl (by decide +kernel)) (
  mA (i := 13) (ok_gP (pc := 27) rfl (by decide +kernel) wd_328 inw_10 rfl rfl (by decide +kernel)) (
  mA (i := 14) (ok_ald_n (f := 0) (pc := 30) rfl rfl rfl (by decide +kernel)) (
  mA (i := 15) (ok_gP (pc := 31) rfl (by decide +kernel) wd_332 inw_10 rfl rfl (by decide +kernel)) (
  mA (i := 16) (ok_ild_n (f := 1) (pc := 34) rfl rfl rfl (by decide +kernel)) (
  mA (i := 17) (ok_callV (pc := 35) (can_V cal_St_layAll (by decide +kernel) rfl (by decide +kernel) rfl wd_546 wd_547 wd_548 wd_80 (by decide +kernel)) rfl rfl) (
  mA (i := 18) (ok_vret (pc := 38) rfl rfl (by decide +kernel)) (
  mZ)))))))))))))))))))
set_option maxRecDepth 20000 in
theorem ok_C_forgetRelations : mAll (mOk RX9 cX9_forgetRelations 1 true false none (mnat p_C_forgetRelations)) 0 k_C_forgetRelations := mA (i := 0) (ok_ald_n (f := 0) (pc := 0) rfl rfl rfl (by decide +kernel)) (
  mA (i := 1) (ok_gP (pc := 1) rfl (by decide +kernel) wd_324 inw_10 rfl rfl (by decide +kernel)) (
  mA (i := 2) (ok_callV (pc := 4) (can_V cal_Rl_forget (by decide +kernel) rfl (by decide +kernel) rfl wd_549 wd_550 wd_551 wd_241 (by decide +kernel)) rfl rfl) (
  mA (i := 3) (ok_ald_n (f := 0) (pc := 7) rfl rfl rfl (by decide +kernel)) (
  mA (i := 4) (ok_gP (pc := 8) rfl (by decide +kernel) wd_325 inw_10 rfl rfl (by decide +kernel)) (
  mA (i := 5) (ok_callV (pc := 11) (can_V cal_Rl_forget (by decide +kernel) rfl (by decide +kernel) rfl wd_549 wd_550 wd_551 wd_241 (by decide +kernel)) rfl rfl) (
  mA (i := 6) (ok_vret (pc := 14) rfl rfl (by decide +kernel)) (
  mZ)))))))
set_option maxRecDepth 20000 in
theorem ok_C_relation_t60 : mAll (mOk RX9 cX9_relation 7 true false (some (.object "ClauseIndex$Relation")) (mnat p_C_relation)) 60 [o_ald 2, o_aret] := mA (i := 60) (ok_ald_n (f := 2) (pc := 125) rfl rfl rfl (by decide +kernel)) (
  mA (i := 61) (ok_aret (pc := 126) (Or.inl ⟨_, rfl⟩) rfl (by decide +kernel)) (
  mZ))
set_option maxRecDepth 20000 in
theorem ok_C_relation : mAll (mOk RX9 cX9_relation 7 true false (some (.object "ClauseIndex$Relation")) (mnat p_C_relation)) 0 k_C_relation := mA (i := 0) (ok_ild_n (f := 1) (pc := 0) rfl rfl rfl (by decide +kernel)) (
  mA (i := 1) (ok_ifne (off := 10) (pc := 1) (tgt := 11) rfl rfl rfl (by decide +kernel) (by decide +kernel)) (
  mA (i := 2) (ok_ald_n (f := 0) (pc := 4) rfl rfl rfl (by decide +kernel)) (
  mA (i := 3) (ok_gP (pc := 5) rfl (by decide +kernel) wd_324 inw_10 rfl rfl (by decide +kernel)) (
  mA (i := 4) (ok_goto (off := 7) (pc := 8) (tgt := 15) rfl rfl (by decide +kernel) (by decide +kernel)) (
  mA (i := 5) (ok_ald_n (f := 0) (pc := 11) rfl rfl rfl (by decide +kernel)) (
  mA (i := 6) (ok_gP (pc := 12) rfl (by decide +kernel) wd_325 inw_10 rfl rfl (by decide +kernel)) (
  mA (i := 7) (ok_ast_n (f := 2) (pc := 15) rfl (by decide +kernel) rfl rfl rfl (by decide +kernel)) (
  mA (i := 8) (ok_ald_n (f := 2) (pc := 16) rfl rfl rfl (by decide +kernel)) (
  mA (i := 9) (ok_callI (pc := 17) (can_V cal_Rl_isKnown (by decide +kernel) rfl (by decide +kernel) rfl wd_552 wd_553 wd_554 wd_241 (by decide +kernel)) rfl rfl) (
  mA (i := 10) (ok_ifeq (off := 5) (pc := 20) (tgt := 25) rfl rfl rfl (by decide +kernel) (by decide +kernel)) (
  mA (i := 11) (ok_ald_n (f := 2) (pc := 23) rfl rfl rfl (by decide +kernel)) (
  mA (i := 12) (ok_aret (pc := 24) (Or.inl ⟨_, rfl⟩) rfl (by decide +kernel)) (
  mA (i := 13) (ok_ald_n (f := 2) (pc := 25) rfl rfl rfl (by decide +kernel)) (
  mA (i := 14) (ok_ald_n (f := 0) (pc := 26) rfl rfl rfl (by decide +kernel)) (
  mA (i := 15) (ok_gP (pc := 27) rfl (by decide +kernel) wd_328 inw_10 rfl rfl (by decide +kernel)) (
  mA (i := 16) (ok_callI (pc := 30) (can_V cal_St_numbers (by decide +kernel) rfl (by decide +kernel) rfl wd_384 wd_177 wd_178 wd_80 (by decide +kernel)) rfl rfl) (
  mA (i := 17) (ok_callV (pc := 33) (can_V cal_Rl_begin (by decide +kernel) rfl (by decide +kernel) rfl wd_555 wd_556 wd_557 wd_241 (by decide +kernel)) rfl rfl) (
  mA (i := 18) (ok_ic (n := 0) (pc := 36) (by decide +kernel) rfl rfl (by decide +kernel)) (
  mA (i := 19) (ok_ist_n (f := 3) (pc := 37) rfl (by decide +kernel) rfl rfl rfl (by decide +kernel)) (
  mA (i := 20) (ok_ild_n (f := 3) (pc := 38) rfl rfl rfl (by decide +kernel)) (
  mA (i := 21) (ok_bi (n := 24) (pc := 39) (by decide +kernel) rfl rfl (by decide +kernel)) (
  mA (i := 22) (ok_cge (off := 84) (pc := 41) (tgt := 125) rfl rfl rfl (by decide +kernel) (by decide +kernel)) (
  mA (i := 23) (ok_ald_n (f := 0) (pc := 44) rfl rfl rfl (by decide +kernel)) (
  mA (i := 24) (ok_gP (pc := 45) rfl (by decide +kernel) wd_328 inw_10 rfl rfl (by decide +kernel)) (
  mA (i := 25) (ok_ild_n (f := 3) (pc := 48) rfl rfl rfl (by decide +kernel)) (
  mA (i := 26) (ok_callP (pc := 49) (can_V cal_St_clause (by decide +kernel) rfl (by decide +kernel) rfl wd_383 wd_171 wd_172 wd_80 (by decide +kernel)) rfl rfl) (
  mA (i := 27) (ok_ast (pc := 52) (by decide +kernel) rfl rfl rfl (by decide +kernel)) (
  mA (i := 28) (ok_ic (n := 0) (pc := 54) (by decide +kernel) rfl rfl (by decide +kernel)) (
  mA (i := 29) (ok_ist (pc := 55) (by decide +kernel) rfl rfl rfl (by decide +kernel)) (
  mA (i := 30) (ok_ald (pc := 57) rfl rfl (by decide +kernel)) (
  mA (i := 31) (ok_nullp (off := 60) (pc := 59) (tgt := 119) rfl rfl rfl (by decide +kernel) (by decide +kernel)) (
  mA (i := 32) (ok_ild (pc := 62) rfl rfl (by decide +kernel)) (
  mA (i := 33) (ok_bi (n := 24) (pc := 64) (by decide +kernel) rfl rfl (by decide +kernel)) (
  mA (i := 34) (ok_cge (off := 53) (pc := 66) (tgt := 119) rfl rfl rfl (by decide +kernel) (by decide +kernel)) (
  mA (i := 35) (ok_ald_n (f := 0) (pc := 69) rfl rfl rfl (by decide +kernel)) (
  mA (i := 36) (ok_gP (pc := 70) rfl (by decide +kernel) wd_328 inw_10 rfl rfl (by decide +kernel)) (
  mA (i := 37) (ok_ild (pc := 73) rfl rfl (by decide +kernel)) (
  mA (i := 38) (ok_callP (pc := 75) (can_V cal_St_clause (by decide +kernel) rfl (by decide +kernel) rfl wd_383 wd_171 wd_172 wd_80 (by decide +kernel)) rfl rfl) (
  mA (i := 39) (ok_ast (pc := 78) (by decide +kernel) rfl rfl rfl (by decide +kernel)) (
  mA (i := 40) (ok_ild (pc := 80) rfl rfl (by decide +kernel)) (
  mA (i := 41) (ok_ild_n (f := 3) (pc := 82) rfl rfl rfl (by decide +kernel)) (
  mA (i := 42) (ok_ceq (off := 30) (pc := 83) (tgt := 113) rfl rfl rfl (by decide +kernel) (by decide +kernel)) (
  mA (i := 43) (ok_ald (pc := 86) rfl rfl (by decide +kernel)) (
  mA (i := 44) (ok_nullp (off := 25) (pc := 88) (tgt := 113) rfl rfl rfl (by decide +kernel) (by decide +kernel)) (
  mA (i := 45) (ok_ald_n (f := 0) (pc := 91) rfl rfl rfl (by decide +kernel)) (
  mA (i := 46) (ok_gP (pc := 92) rfl (by decide +kernel) wd_303 inw_10 rfl rfl (by decide +kernel)) (
  mA (i := 47) (ok_ald (pc := 95) rfl rfl (by decide +kernel)) (
  mA (i := 48) (ok_ald (pc := 97) rfl rfl (by decide +kernel)) (
  mA (i := 49) (ok_ild_n (f := 1) (pc := 99) rfl rfl rfl (by decide +kernel)) (
  mA (i := 50) (ok_callI (pc := 100) (can_V cal_Ma_findsFirst (by decide +kernel) rfl (by decide +kernel) rfl wd_403 wd_404 wd_405 wd_98 (by decide +kernel)) rfl rfl) (
  mA (i := 51) (ok_ifeq (off := 10) (pc := 103) (tgt := 113) rfl rfl rfl (by decide +kernel) (by decide +kernel)) (
  mA (i := 52) (ok_ald_n (f := 2) (pc := 106) rfl rfl rfl (by decide +kernel)) (
  mA (i := 53) (ok_ild_n (f := 3) (pc := 107) rfl rfl rfl (by decide +kernel)) (
  mA (i := 54) (ok_ild (pc := 108) rfl rfl (by decide +kernel)) (
  mA (i := 55) (ok_callV (pc := 110) (can_V cal_Rl_note (by decide +kernel) rfl (by decide +kernel) rfl wd_558 wd_559 wd_560 wd_241 (by decide +kernel)) rfl rfl) (
  mA (i := 56) (ok_inc (z := 1) (pc := 113) (by decide +kernel) (by decide +kernel) rfl rfl rfl (by decide +kernel)) (
  mA (i := 57) (ok_goto (off := (-59)) (pc := 116) (tgt := 57) rfl rfl (by decide +kernel) (by decide +kernel)) (
  mA (i := 58) (ok_inc (z := 1) (pc := 119) (by decide +kernel) (by decide +kernel) rfl rfl rfl (by decide +kernel)) (
  mA (i := 59) (ok_goto (off := (-84)) (pc := 122) (tgt := 38) rfl rfl (by decide +kernel) (by decide +kernel)) (
  ok_C_relation_t60))))))))))))))))))))))))))))))))))))))))))))))))))))))))))))
set_option maxRecDepth 20000 in
theorem ok_C_fewest : mAll (mOk RX9 cX9_fewest 5 true false (some .int) (mnat p_C_fewest)) 0 k_C_fewest := mA (i := 0) (ok_ic (n := 1) (pc := 0) (by decide +kernel) rfl rfl (by decide +kernel)) (
  mA (i := 1) (ok_ald_n (f := 1) (pc := 1) rfl rfl rfl (by decide +kernel)) (
  mA (i := 2) (ok_callI (pc := 2) (can_V cal_Cl_size (by decide +kernel) rfl (by decide +kernel) rfl wd_362 wd_32 wd_33 wd_24 (by decide +kernel)) rfl rfl) (
  mA (i := 3) (ok_shl (pc := 5) rfl rfl (by decide +kernel)) (
  mA (i := 4) (ok_ic (n := 1) (pc := 6) (by decide +kernel) rfl rfl (by decide +kernel)) (
  mA (i := 5) (ok_sub (pc := 7) rfl rfl (by decide +kernel)) (
  mA (i := 6) (ok_ist_n (f := 2) (pc := 8) rfl (by decide +kernel) rfl rfl rfl (by decide +kernel)) (
  mA (i := 7) (ok_ic (n := 0) (pc := 9) (by decide +kernel) rfl rfl (by decide +kernel)) (
  mA (i := 8) (ok_ist_n (f := 3) (pc := 10) rfl (by decide +kernel) rfl rfl rfl (by decide +kernel)) (
  mA (i := 9) (ok_ild_n (f := 3) (pc := 11) rfl rfl rfl (by decide +kernel)) (
  mA (i := 10) (ok_ald_n (f := 1) (pc := 12) rfl rfl rfl (by decide +kernel)) (
  mA (i := 11) (ok_callI (pc := 13) (can_V cal_Cl_size (by decide +kernel) rfl (by decide +kernel) rfl wd_362 wd_32 wd_33 wd_24 (by decide +kernel)) rfl rfl) (
  mA (i := 12) (ok_cge (off := 50) (pc := 16) (tgt := 66) rfl rfl rfl (by decide +kernel) (by decide +kernel)) (
  mA (i := 13) (ok_ic (n := 0) (pc := 19) (by decide +kernel) rfl rfl (by decide +kernel)) (
  mA (i := 14) (ok_ist (pc := 20) (by decide +kernel) rfl rfl rfl (by decide +kernel)) (
  mA (i := 15) (ok_ild (pc := 22) rfl rfl (by decide +kernel)) (
  mA (i := 16) (ok_ild_n (f := 2) (pc := 24) rfl rfl rfl (by decide +kernel)) (
  mA (i := 17) (ok_cge (off := 35) (pc := 25) (tgt := 60) rfl rfl rfl (by decide +kernel) (by decide +kernel)) (
  mA (i := 18) (ok_ild (pc := 28) rfl rfl (by decide +kernel)) (
  mA (i := 19) (ok_callI (pc := 30) (can_S cal_Ji_bitCount (by decide +kernel) wd_385 wd_179 wd_180 (by decide +kernel)) rfl rfl) (
  mA (i := 20) (ok_ild_n (f := 3) (pc := 33) rfl rfl rfl (by decide +kernel)) (
  mA (i := 21) (ok_cne (off := 20) (pc := 34) (tgt := 54) rfl rfl rfl (by decide +kernel) (by decide +kernel)) (
  mA (i := 22) (ok_ald_n (f := 0) (pc := 37) rfl rfl rfl (by decide +kernel)) (
  mA (i := 23) (ok_gP (pc := 38) rfl (by decide +kernel) wd_303 inw_10 rfl rfl (by decide +kernel)) (
  mA (i := 24) (ok_ald_n (f := 1) (pc := 41) rfl rfl rfl (by decide +kernel)) (
  mA (i := 25) (ok_ald_n (f := 1) (pc := 42) rfl rfl rfl (by decide +kernel)) (
  mA (i := 26) (ok_ild (pc := 43) rfl rfl (by decide +kernel)) (
  mA (i := 27) (ok_callI (pc := 45) (can_V cal_Ma_findsAmong (by decide +kernel) rfl (by decide +kernel) rfl wd_561 wd_562 wd_563 wd_98 (by decide +kernel)) rfl rfl) (
  mA (i := 28) (ok_ifeq (off := 6) (pc := 48) (tgt := 54) rfl rfl rfl (by decide +kernel) (by decide +kernel)) (
  mA (i := 29) (ok_ild (pc := 51) rfl rfl (by decide +kernel)) (
  mA (i := 30) (ok_iret (pc := 53) rfl rfl (by decide +kernel)) (
  mA (i := 31) (ok_inc (z := 1) (pc := 54) (by decide +kernel) (by decide +kernel) rfl rfl rfl (by decide +kernel)) (
  mA (i := 32) (ok_goto (off := (-35)) (pc := 57) (tgt := 22) rfl rfl (by decide +kernel) (by decide +kernel)) (
  mA (i := 33) (ok_inc (z := 1) (pc := 60) (by decide +kernel) (by decide +kernel) rfl rfl rfl (by decide +kernel)) (
  mA (i := 34) (ok_goto (off := (-52)) (pc := 63) (tgt := 11) rfl rfl (by decide +kernel) (by decide +kernel)) (
  mA (i := 35) (ok_ild_n (f := 2) (pc := 66) rfl rfl rfl (by decide +kernel)) (
  mA (i := 36) (ok_iret (pc := 67) rfl rfl (by decide +kernel)) (
  mZ)))))))))))))))))))))))))))))))))))))
set_option maxRecDepth 20000 in
theorem ok_C_makeSame : mAll (mOk RX9 cX9_makeSame 7 true false (some .int) (mnat p_C_makeSame)) 0 k_C_makeSame := mA (i := 0) (ok_ic (n := 1) (pc := 0) (by decide +kernel) rfl rfl (by decide +kernel)) (
  mA (i := 1) (ok_ist_n (f := 3) (pc := 1) rfl (by decide +kernel) rfl rfl rfl (by decide +kernel)) (
  mA (i := 2) (ok_ild_n (f := 3) (pc := 2) rfl rfl rfl (by decide +kernel)) (
  mA (i := 3) (ok_bi (n := 30) (pc := 3) (by decide +kernel) rfl rfl (by decide +kernel)) (
  mA (i := 4) (ok_cge (off := 83) (pc := 5) (tgt := 88) rfl rfl rfl (by decide +kernel) (by decide +kernel)) (
  mA (i := 5) (ok_ald_n (f := 0) (pc := 8) rfl rfl rfl (by decide +kernel)) (
  mA (i := 6) (ok_gP (pc := 9) rfl (by decide +kernel) wd_335 inw_10 rfl rfl (by decide +kernel)) (
  mA (i := 7) (ok_ild_n (f := 1) (pc := 12) rfl rfl rfl (by decide +kernel)) (
  mA (i := 8) (ok_callI (pc := 13) (can_V cal_Dr_startOf (by decide +kernel) rfl (by decide +kernel) rfl wd_422 wd_423 wd_424 wd_7 (by decide +kernel)) rfl rfl) (
  mA (i := 9) (ok_ild_n (f := 3) (pc := 16) rfl rfl rfl (by decide +kernel)) (
  mA (i := 10) (ok_add (pc := 17) rfl rfl (by decide +kernel)) (
  mA (i := 11) (ok_ist (pc := 18) (by decide +kernel) rfl rfl rfl (by decide +kernel)) (
  mA (i := 12) (ok_ald_n (f := 0) (pc := 20) rfl rfl rfl (by decide +kernel)) (
  mA (i := 13) (ok_gP (pc := 21) rfl (by decide +kernel) wd_335 inw_10 rfl rfl (by decide +kernel)) (
  mA (i := 14) (ok_ild_n (f := 2) (pc := 24) rfl rfl rfl (by decide +kernel)) (
  mA (i := 15) (ok_callI (pc := 25) (can_V cal_Dr_startOf (by decide +kernel) rfl (by decide +kernel) rfl wd_422 wd_423 wd_424 wd_7 (by decide +kernel)) rfl rfl) (
  mA (i := 16) (ok_ild_n (f := 3) (pc := 28) rfl rfl rfl (by decide +kernel)) (
  mA (i := 17) (ok_add (pc := 29) rfl rfl (by decide +kernel)) (
  mA (i := 18) (ok_ist (pc := 30) (by decide +kernel) rfl rfl rfl (by decide +kernel)) (
  mA (i := 19) (ok_ild (pc := 32) rfl rfl (by decide +kernel)) (
  mA (i := 20) (ok_ald_n (f := 0) (pc := 34) rfl rfl rfl (by decide +kernel)) (
  mA (i := 21) (ok_gP (pc := 35) rfl (by decide +kernel) wd_335 inw_10 rfl rfl (by decide +kernel)) (
  mA (i := 22) (ok_ild_n (f := 1) (pc := 38) rfl rfl rfl (by decide +kernel)) (
  mA (i := 23) (ok_ic (n := 1) (pc := 39) (by decide +kernel) rfl rfl (by decide +kernel)) (
  mA (i := 24) (ok_add (pc := 40) rfl rfl (by decide +kernel)) (
  mA (i := 25) (ok_callI (pc := 41) (can_V cal_Dr_startOf (by decide +kernel) rfl (by decide +kernel) rfl wd_422 wd_423 wd_424 wd_7 (by decide +kernel)) rfl rfl) (
  mA (i := 26) (ok_cge (off := 18) (pc := 44) (tgt := 62) rfl rfl rfl (by decide +kernel) (by decide +kernel)) (
  mA (i := 27) (ok_ild (pc := 47) rfl rfl (by decide +kernel)) (
  mA (i := 28) (ok_ald_n (f := 0) (pc := 49) rfl rfl rfl (by decide +kernel)) (
  mA (i := 29) (ok_gP (pc := 50) rfl (by decide +kernel) wd_335 inw_10 rfl rfl (by decide +kernel)) (
  mA (i := 30) (ok_ild_n (f := 2) (pc := 53) rfl rfl rfl (by decide +kernel)) (
  mA (i := 31) (ok_ic (n := 1) (pc := 54) (by decide +kernel) rfl rfl (by decide +kernel)) (
  mA (i := 32) (ok_add (pc := 55) rfl rfl (by decide +kernel)) (
  mA (i := 33) (ok_callI (pc := 56) (can_V cal_Dr_startOf (by decide +kernel) rfl (by decide +kernel) rfl wd_422 wd_423 wd_424 wd_7 (by decide +kernel)) rfl rfl) (
  mA (i := 34) (ok_clt (off := 5) (pc := 59) (tgt := 64) rfl rfl rfl (by decide +kernel) (by decide +kernel)) (
  mA (i := 35) (ok_ic (n := 0) (pc := 62) (by decide +kernel) rfl rfl (by decide +kernel)) (
  mA (i := 36) (ok_iret (pc := 63) rfl rfl (by decide +kernel)) (
  mA (i := 37) (ok_ald_n (f := 0) (pc := 64) rfl rfl rfl (by decide +kernel)) (
  mA (i := 38) (ok_ild (pc := 65) rfl rfl (by decide +kernel)) (
  mA (i := 39) (ok_ild (pc := 67) rfl rfl (by decide +kernel)) (
  mA (i := 40) (ok_callI (pc := 69) (can_V cal_C_makeSameSymbol (by decide +kernel) rfl (by decide +kernel) rfl wd_564 wd_565 wd_566 wd_35 (by decide +kernel)) rfl rfl) (
  mA (i := 41) (ok_ist (pc := 72) (by decide +kernel) rfl rfl rfl (by decide +kernel)) (
  mA (i := 42) (ok_ild (pc := 74) rfl rfl (by decide +kernel)) (
  mA (i := 43) (ok_ifeq (off := 6) (pc := 76) (tgt := 82) rfl rfl rfl (by decide +kernel) (by decide +kernel)) (
  mA (i := 44) (ok_ild (pc := 79) rfl rfl (by decide +kernel)) (
  mA (i := 45) (ok_iret (pc := 81) rfl rfl (by decide +kernel)) (
  mA (i := 46) (ok_inc (z := 1) (pc := 82) (by decide +kernel) (by decide +kernel) rfl rfl rfl (by decide +kernel)) (
  mA (i := 47) (ok_goto (off := (-83)) (pc := 85) (tgt := 2) rfl rfl (by decide +kernel) (by decide +kernel)) (
  mA (i := 48) (ok_ic (n := 0) (pc := 88) (by decide +kernel) rfl rfl (by decide +kernel)) (
  mA (i := 49) (ok_iret (pc := 89) rfl rfl (by decide +kernel)) (
  mZ))))))))))))))))))))))))))))))))))))))))))))))))))
set_option maxRecDepth 20000 in
theorem ok_C_makeSameSymbol : mAll (mOk RX9 cX9_makeSameSymbol 5 true false (some .int) (mnat p_C_makeSameSymbol)) 0 k_C_makeSameSymbol := mA (i := 0) (ok_ald_n (f := 0) (pc := 0) rfl rfl rfl (by decide +kernel)) (
  mA (i := 1) (ok_gP (pc := 1) rfl (by decide +kernel) wd_335 inw_10 rfl rfl (by decide +kernel)) (
  mA (i := 2) (ok_ild_n (f := 1) (pc := 4) rfl rfl rfl (by decide +kernel)) (
  mA (i := 3) (ok_callI (pc := 5) (can_V cal_Dr_codeAt (by decide +kernel) rfl (by decide +kernel) rfl wd_366 wd_15 wd_16 wd_7 (by decide +kernel)) rfl rfl) (
  mA (i := 4) (ok_ist_n (f := 3) (pc := 8) rfl (by decide +kernel) rfl rfl rfl (by decide +kernel)) (
  mA (i := 5) (ok_ald_n (f := 0) (pc := 9) rfl rfl rfl (by decide +kernel)) (
  mA (i := 6) (ok_gP (pc := 10) rfl (by decide +kernel) wd_335 inw_10 rfl rfl (by decide +kernel)) (
  mA (i := 7) (ok_ild_n (f := 2) (pc := 13) rfl rfl rfl (by decide +kernel)) (
  mA (i := 8) (ok_callI (pc := 14) (can_V cal_Dr_codeAt (by decide +kernel) rfl (by decide +kernel) rfl wd_366 wd_15 wd_16 wd_7 (by decide +kernel)) rfl rfl) (
  mA (i := 9) (ok_ist (pc := 17) (by decide +kernel) rfl rfl rfl (by decide +kernel)) (
  mA (i := 10) (ok_ild_n (f := 3) (pc := 19) rfl rfl rfl (by decide +kernel)) (
  mA (i := 11) (ok_ild (pc := 20) rfl rfl (by decide +kernel)) (
  mA (i := 12) (ok_cne (off := 5) (pc := 22) (tgt := 27) rfl rfl rfl (by decide +kernel) (by decide +kernel)) (
  mA (i := 13) (ok_ic (n := 0) (pc := 25) (by decide +kernel) rfl rfl (by decide +kernel)) (
  mA (i := 14) (ok_iret (pc := 26) rfl rfl (by decide +kernel)) (
  mA (i := 15) (ok_ild_n (f := 3) (pc := 27) rfl rfl rfl (by decide +kernel)) (
  mA (i := 16) (ok_callI (pc := 28) (can_S cal_C_isVariable (by decide +kernel) wd_567 wd_34 wd_35 (by decide +kernel)) rfl rfl) (
  mA (i := 17) (ok_ifeq (off := 10) (pc := 31) (tgt := 41) rfl rfl rfl (by decide +kernel) (by decide +kernel)) (
  mA (i := 18) (ok_ald_n (f := 0) (pc := 34) rfl rfl rfl (by decide +kernel)) (
  mA (i := 19) (ok_ild_n (f := 3) (pc := 35) rfl rfl rfl (by decide +kernel)) (
  mA (i := 20) (ok_ild_n (f := 2) (pc := 36) rfl rfl rfl (by decide +kernel)) (
  mA (i := 21) (ok_callI (pc := 37) (can_V cal_C_putWithin (by decide +kernel) rfl (by decide +kernel) rfl wd_568 wd_569 wd_570 wd_35 (by decide +kernel)) rfl rfl) (
  mA (i := 22) (ok_iret (pc := 40) rfl rfl (by decide +kernel)) (
  mA (i := 23) (ok_ild (pc := 41) rfl rfl (by decide +kernel)) (
  mA (i := 24) (ok_callI (pc := 43) (can_S cal_C_isVariable (by decide +kernel) wd_567 wd_34 wd_35 (by decide +kernel)) rfl rfl) (
  mA (i := 25) (ok_ifeq (off := 13) (pc := 46) (tgt := 59) rfl rfl rfl (by decide +kernel) (by decide +kernel)) (
  mA (i := 26) (ok_ald_n (f := 0) (pc := 49) rfl rfl rfl (by decide +kernel)) (
  mA (i := 27) (ok_ild (pc := 50) rfl rfl (by decide +kernel)) (
  mA (i := 28) (ok_ild_n (f := 1) (pc := 52) rfl rfl rfl (by decide +kernel)) (
  mA (i := 29) (ok_callI (pc := 53) (can_V cal_C_putWithin (by decide +kernel) rfl (by decide +kernel) rfl wd_568 wd_569 wd_570 wd_35 (by decide +kernel)) rfl rfl) (
  mA (i := 30) (ok_goto (off := 5) (pc := 56) (tgt := 61) rfl rfl (by decide +kernel) (by decide +kernel)) (
  mA (i := 31) (ok_bi (n := (-5)) (pc := 59) (by decide +kernel) rfl rfl (by decide +kernel)) (
  mA (i := 32) (ok_iret (pc := 61) rfl rfl (by decide +kernel)) (
  mZ)))))))))))))))))))))))))))))))))
set_option maxRecDepth 20000 in
theorem ok_C_putWithin : mAll (mOk RX9 cX9_putWithin 5 true false (some .int) (mnat p_C_putWithin)) 0 k_C_putWithin := mA (i := 0) (ok_ald_n (f := 0) (pc := 0) rfl rfl rfl (by decide +kernel)) (
  mA (i := 1) (ok_gP (pc := 1) rfl (by decide +kernel) wd_335 inw_10 rfl rfl (by decide +kernel)) (
  mA (i := 2) (ok_ild_n (f := 2) (pc := 4) rfl rfl rfl (by decide +kernel)) (
  mA (i := 3) (ok_callI (pc := 5) (can_V cal_Dr_endOfTerm (by decide +kernel) rfl (by decide +kernel) rfl wd_571 wd_21 wd_22 wd_7 (by decide +kernel)) rfl rfl) (
  mA (i := 4) (ok_ist_n (f := 3) (pc := 8) rfl (by decide +kernel) rfl rfl rfl (by decide +kernel)) (
  mA (i := 5) (ok_ald_n (f := 0) (pc := 9) rfl rfl rfl (by decide +kernel)) (
  mA (i := 6) (ok_gP (pc := 10) rfl (by decide +kernel) wd_335 inw_10 rfl rfl (by decide +kernel)) (
  mA (i := 7) (ok_ild_n (f := 1) (pc := 13) rfl rfl rfl (by decide +kernel)) (
  mA (i := 8) (ok_ild_n (f := 2) (pc := 14) rfl rfl rfl (by decide +kernel)) (
  mA (i := 9) (ok_ild_n (f := 3) (pc := 15) rfl rfl rfl (by decide +kernel)) (
  mA (i := 10) (ok_callI (pc := 16) (can_V cal_Dr_times (by decide +kernel) rfl (by decide +kernel) rfl wd_371 wd_372 wd_373 wd_7 (by decide +kernel)) rfl rfl) (
  mA (i := 11) (ok_ifle (off := 6) (pc := 19) (tgt := 25) rfl rfl rfl (by decide +kernel) (by decide +kernel)) (
  mA (i := 12) (ok_bi (n := (-5)) (pc := 22) (by decide +kernel) rfl rfl (by decide +kernel)) (
  mA (i := 13) (ok_iret (pc := 24) rfl rfl (by decide +kernel)) (
  mA (i := 14) (ok_ald_n (f := 0) (pc := 25) rfl rfl rfl (by decide +kernel)) (
  mA (i := 15) (ok_gP (pc := 26) rfl (by decide +kernel) wd_336 inw_10 rfl rfl (by decide +kernel)) (
  mA (i := 16) (ok_ald_n (f := 0) (pc := 29) rfl rfl rfl (by decide +kernel)) (
  mA (i := 17) (ok_gP (pc := 30) rfl (by decide +kernel) wd_335 inw_10 rfl rfl (by decide +kernel)) (
  mA (i := 18) (ok_ild_n (f := 1) (pc := 33) rfl rfl rfl (by decide +kernel)) (
  mA (i := 19) (ok_ald_n (f := 0) (pc := 34) rfl rfl rfl (by decide +kernel)) (
  mA (i := 20) (ok_gP (pc := 35) rfl (by decide +kernel) wd_335 inw_10 rfl rfl (by decide +kernel)) (
  mA (i := 21) (ok_ild_n (f := 2) (pc := 38) rfl rfl rfl (by decide +kernel)) (
  mA (i := 22) (ok_ild_n (f := 3) (pc := 39) rfl rfl rfl (by decide +kernel)) (
  mA (i := 23) (ok_callI (pc := 40) (can_V cal_Dr_loadPut (by decide +kernel) rfl (by decide +kernel) rfl wd_374 wd_375 wd_376 wd_7 (by decide +kernel)) rfl rfl) (
  mA (i := 24) (ok_ifne (off := 6) (pc := 43) (tgt := 49) rfl rfl rfl (by decide +kernel) (by decide +kernel)) (
  mA (i := 25) (ok_bi (n := (-4)) (pc := 46) (by decide +kernel) rfl rfl (by decide +kernel)) (
  mA (i := 26) (ok_iret (pc := 48) rfl rfl (by decide +kernel)) (
  mA (i := 27) (ok_ald_n (f := 0) (pc := 49) rfl rfl rfl (by decide +kernel)) (
  mA (i := 28) (ok_gP (pc := 50) rfl (by decide +kernel) wd_335 inw_10 rfl rfl (by decide +kernel)) (
  mA (i := 29) (ok_ast (pc := 53) (by decide +kernel) rfl rfl rfl (by decide +kernel)) (
  mA (i := 30) (ok_ald_n (f := 0) (pc := 55) rfl rfl rfl (by decide +kernel)) (
  mA (i := 31) (ok_ald_n (f := 0) (pc := 56) rfl rfl rfl (by decide +kernel)) (
  mA (i := 32) (ok_gP (pc := 57) rfl (by decide +kernel) wd_336 inw_10 rfl rfl (by decide +kernel)) (
  mA (i := 33) (ok_pP (pc := 60) rfl (by decide +kernel) wd_335 inw_10 tyX9_ok nmX9 rfl (tyX9_ok 11 (by decide +kernel)) rfl rfl rfl (by decide +kernel)) (
  mA (i := 34) (ok_ald_n (f := 0) (pc := 63) rfl rfl rfl (by decide +kernel)) (
  mA (i := 35) (ok_ald (pc := 64) rfl rfl (by decide +kernel)) (
  mA (i := 36) (ok_pP (pc := 66) rfl (by decide +kernel) wd_336 inw_10 tyX9_ok nmX9 rfl (tyX9_ok 12 (by decide +kernel)) rfl rfl rfl (by decide +kernel)) (
  mA (i := 37) (ok_ic (n := 0) (pc := 69) (by decide +kernel) rfl rfl (by decide +kernel)) (
  mA (i := 38) (ok_iret (pc := 70) rfl rfl (by decide +kernel)) (
  mZ)))))))))))))))))))))))))))))))))))))))
set_option maxRecDepth 20000 in
theorem ok_C_judged : mAll (mOk RX9 cX9_judged 6 true false (some .int) (mnat p_C_judged)) 0 k_C_judged := mA (i := 0) (ok_ic (n := 0) (pc := 0) (by decide +kernel) rfl rfl (by decide +kernel)) (
  mA (i := 1) (ok_ist_n (f := 3) (pc := 1) rfl (by decide +kernel) rfl rfl rfl (by decide +kernel)) (
  mA (i := 2) (ok_ic (n := 0) (pc := 2) (by decide +kernel) rfl rfl (by decide +kernel)) (
  mA (i := 3) (ok_ist (pc := 3) (by decide +kernel) rfl rfl rfl (by decide +kernel)) (
  mA (i := 4) (ok_ild (pc := 5) rfl rfl (by decide +kernel)) (
  mA (i := 5) (ok_bi (n := 24) (pc := 7) (by decide +kernel) rfl rfl (by decide +kernel)) (
  mA (i := 6) (ok_cge (off := 69) (pc := 9) (tgt := 78) rfl rfl rfl (by decide +kernel) (by decide +kernel)) (
  mA (i := 7) (ok_ald_n (f := 0) (pc := 12) rfl rfl rfl (by decide +kernel)) (
  mA (i := 8) (ok_gP (pc := 13) rfl (by decide +kernel) wd_328 inw_10 rfl rfl (by decide +kernel)) (
  mA (i := 9) (ok_ild (pc := 16) rfl rfl (by decide +kernel)) (
  mA (i := 10) (ok_callP (pc := 18) (can_V cal_St_clause (by decide +kernel) rfl (by decide +kernel) rfl wd_383 wd_171 wd_172 wd_80 (by decide +kernel)) rfl rfl) (
  mA (i := 11) (ok_ast (pc := 21) (by decide +kernel) rfl rfl rfl (by decide +kernel)) (
  mA (i := 12) (ok_ald (pc := 23) rfl rfl (by decide +kernel)) (
  mA (i := 13) (ok_nullp (off := 47) (pc := 25) (tgt := 72) rfl rfl rfl (by decide +kernel) (by decide +kernel)) (
  mA (i := 14) (ok_ald_n (f := 0) (pc := 28) rfl rfl rfl (by decide +kernel)) (
  mA (i := 15) (ok_gP (pc := 29) rfl (by decide +kernel) wd_303 inw_10 rfl rfl (by decide +kernel)) (
  mA (i := 16) (ok_ild_n (f := 1) (pc := 32) rfl rfl rfl (by decide +kernel)) (
  mA (i := 17) (ok_ifne (off := 8) (pc := 33) (tgt := 41) rfl rfl rfl (by decide +kernel) (by decide +kernel)) (
  mA (i := 18) (ok_ald (pc := 36) rfl rfl (by decide +kernel)) (
  mA (i := 19) (ok_goto (off := 7) (pc := 38) (tgt := 45) rfl rfl (by decide +kernel) (by decide +kernel)) (
  mA (i := 20) (ok_ald_n (f := 0) (pc := 41) rfl rfl rfl (by decide +kernel)) (
  mA (i := 21) (ok_gP (pc := 42) rfl (by decide +kernel) wd_340 inw_10 rfl rfl (by decide +kernel)) (
  mA (i := 22) (ok_ild_n (f := 1) (pc := 45) rfl rfl rfl (by decide +kernel)) (
  mA (i := 23) (ok_ifne (off := 10) (pc := 46) (tgt := 56) rfl rfl rfl (by decide +kernel) (by decide +kernel)) (
  mA (i := 24) (ok_ald_n (f := 0) (pc := 49) rfl rfl rfl (by decide +kernel)) (
  mA (i := 25) (ok_gP (pc := 50) rfl (by decide +kernel) wd_340 inw_10 rfl rfl (by decide +kernel)) (
  mA (i := 26) (ok_goto (off := 5) (pc := 53) (tgt := 58) rfl rfl (by decide +kernel) (by decide +kernel)) (
  mA (i := 27) (ok_ald (pc := 56) rfl rfl (by decide +kernel)) (
  mA (i := 28) (ok_ild_n (f := 2) (pc := 58) rfl rfl rfl (by decide +kernel)) (
  mA (i := 29) (ok_callI (pc := 59) (can_V cal_Ma_findsFirst (by decide +kernel) rfl (by decide +kernel) rfl wd_403 wd_404 wd_405 wd_98 (by decide +kernel)) rfl rfl) (
  mA (i := 30) (ok_ifeq (off := 10) (pc := 62) (tgt := 72) rfl rfl rfl (by decide +kernel) (by decide +kernel)) (
  mA (i := 31) (ok_ild_n (f := 3) (pc := 65) rfl rfl rfl (by decide +kernel)) (
  mA (i := 32) (ok_ic (n := 1) (pc := 66) (by decide +kernel) rfl rfl (by decide +kernel)) (
  mA (i := 33) (ok_ild (pc := 67) rfl rfl (by decide +kernel)) (
  mA (i := 34) (ok_shl (pc := 69) rfl rfl (by decide +kernel)) (
  mA (i := 35) (ok_or (pc := 70) rfl rfl (by decide +kernel)) (
  mA (i := 36) (ok_ist_n (f := 3) (pc := 71) rfl (by decide +kernel) rfl rfl rfl (by decide +kernel)) (
  mA (i := 37) (ok_inc (z := 1) (pc := 72) (by decide +kernel) (by decide +kernel) rfl rfl rfl (by decide +kernel)) (
  mA (i := 38) (ok_goto (off := (-70)) (pc := 75) (tgt := 5) rfl rfl (by decide +kernel) (by decide +kernel)) (
  mA (i := 39) (ok_ild_n (f := 3) (pc := 78) rfl rfl rfl (by decide +kernel)) (
  mA (i := 40) (ok_iret (pc := 79) rfl rfl (by decide +kernel)) (
  mZ)))))))))))))))))))))))))))))))))))))))))
set_option maxRecDepth 20000 in
theorem ok_C_pick : mAll (mOk RX9 cX9_pick 4 true false (some .int) (mnat p_C_pick)) 0 k_C_pick := mA (i := 0) (ok_ild_n (f := 1) (pc := 0) rfl rfl rfl (by decide +kernel)) (
  mA (i := 1) (ok_ic (n := (-1)) (pc := 1) (by decide +kernel) rfl rfl (by decide +kernel)) (
  mA (i := 2) (ok_cne (off := 8) (pc := 2) (tgt := 10) rfl rfl rfl (by decide +kernel) (by decide +kernel)) (
  mA (i := 3) (ok_ild_n (f := 0) (pc := 5) rfl rfl rfl (by decide +kernel)) (
  mA (i := 4) (ok_callI (pc := 6) (can_S cal_Ji_bitCount (by decide +kernel) wd_385 wd_179 wd_180 (by decide +kernel)) rfl rfl) (
  mA (i := 5) (ok_iret (pc := 9) rfl rfl (by decide +kernel)) (
  mA (i := 6) (ok_ic (n := 0) (pc := 10) (by decide +kernel) rfl rfl (by decide +kernel)) (
  mA (i := 7) (ok_ist_n (f := 2) (pc := 11) rfl (by decide +kernel) rfl rfl rfl (by decide +kernel)) (
  mA (i := 8) (ok_ic (n := 0) (pc := 12) (by decide +kernel) rfl rfl (by decide +kernel)) (
  mA (i := 9) (ok_ist_n (f := 3) (pc := 13) rfl (by decide +kernel) rfl rfl rfl (by decide +kernel)) (
  mA (i := 10) (ok_ild_n (f := 3) (pc := 14) rfl rfl rfl (by decide +kernel)) (
  mA (i := 11) (ok_bi (n := 24) (pc := 15) (by decide +kernel) rfl rfl (by decide +kernel)) (
  mA (i := 12) (ok_cge (off := 28) (pc := 17) (tgt := 45) rfl rfl rfl (by decide +kernel) (by decide +kernel)) (
  mA (i := 13) (ok_ild_n (f := 0) (pc := 20) rfl rfl rfl (by decide +kernel)) (
  mA (i := 14) (ok_ild_n (f := 3) (pc := 21) rfl rfl rfl (by decide +kernel)) (
  mA (i := 15) (ok_shr (pc := 22) rfl rfl (by decide +kernel)) (
  mA (i := 16) (ok_ic (n := 1) (pc := 23) (by decide +kernel) rfl rfl (by decide +kernel)) (
  mA (i := 17) (ok_and (pc := 24) rfl rfl (by decide +kernel)) (
  mA (i := 18) (ok_ic (n := 1) (pc := 25) (by decide +kernel) rfl rfl (by decide +kernel)) (
  mA (i := 19) (ok_cne (off := 13) (pc := 26) (tgt := 39) rfl rfl rfl (by decide +kernel) (by decide +kernel)) (
  mA (i := 20) (ok_ild_n (f := 2) (pc := 29) rfl rfl rfl (by decide +kernel)) (
  mA (i := 21) (ok_ild_n (f := 1) (pc := 30) rfl rfl rfl (by decide +kernel)) (
  mA (i := 22) (ok_cne (off := 5) (pc := 31) (tgt := 36) rfl rfl rfl (by decide +kernel) (by decide +kernel)) (
  mA (i := 23) (ok_ild_n (f := 3) (pc := 34) rfl rfl rfl (by decide +kernel)) (
  mA (i := 24) (ok_iret (pc := 35) rfl rfl (by decide +kernel)) (
  mA (i := 25) (ok_inc (z := 1) (pc := 36) (by decide +kernel) (by decide +kernel) rfl rfl rfl (by decide +kernel)) (
  mA (i := 26) (ok_inc (z := 1) (pc := 39) (by decide +kernel) (by decide +kernel) rfl rfl rfl (by decide +kernel)) (
  mA (i := 27) (ok_goto (off := (-28)) (pc := 42) (tgt := 14) rfl rfl (by decide +kernel) (by decide +kernel)) (
  mA (i := 28) (ok_ic (n := (-1)) (pc := 45) (by decide +kernel) rfl rfl (by decide +kernel)) (
  mA (i := 29) (ok_iret (pc := 46) rfl rfl (by decide +kernel)) (
  mZ))))))))))))))))))))))))))))))
set_option maxRecDepth 20000 in
theorem ok_C_isDouble : mAll (mOk RX9 cX9_isDouble 5 true false (some .boolean) (mnat p_C_isDouble)) 0 k_C_isDouble := mA (i := 0) (ok_ald_n (f := 0) (pc := 0) rfl rfl rfl (by decide +kernel)) (
  mA (i := 1) (ok_gP (pc := 1) rfl (by decide +kernel) wd_328 inw_10 rfl rfl (by decide +kernel)) (
  mA (i := 2) (ok_ild_n (f := 1) (pc := 4) rfl rfl rfl (by decide +kernel)) (
  mA (i := 3) (ok_callP (pc := 5) (can_V cal_St_clause (by decide +kernel) rfl (by decide +kernel) rfl wd_383 wd_171 wd_172 wd_80 (by decide +kernel)) rfl rfl) (
  mA (i := 4) (ok_ast_n (f := 2) (pc := 8) rfl (by decide +kernel) rfl rfl rfl (by decide +kernel)) (
  mA (i := 5) (ok_ald_n (f := 2) (pc := 9) rfl rfl rfl (by decide +kernel)) (
  mA (i := 6) (ok_nonnull (off := 5) (pc := 10) (tgt := 15) rfl rfl rfl (by decide +kernel) (by decide +kernel)) (
  mA (i := 7) (ok_ic (n := 0) (pc := 13) (by decide +kernel) rfl rfl (by decide +kernel)) (
  mA (i := 8) (ok_zret (pc := 14) rfl rfl (by decide +kernel)) (
  mA (i := 9) (ok_ic (n := 0) (pc := 15) (by decide +kernel) rfl rfl (by decide +kernel)) (
  mA (i := 10) (ok_ist_n (f := 3) (pc := 16) rfl (by decide +kernel) rfl rfl rfl (by decide +kernel)) (
  mA (i := 11) (ok_ild_n (f := 3) (pc := 17) rfl rfl rfl (by decide +kernel)) (
  mA (i := 12) (ok_ild_n (f := 1) (pc := 18) rfl rfl rfl (by decide +kernel)) (
  mA (i := 13) (ok_cge (off := 39) (pc := 19) (tgt := 58) rfl rfl rfl (by decide +kernel) (by decide +kernel)) (
  mA (i := 14) (ok_ald_n (f := 0) (pc := 22) rfl rfl rfl (by decide +kernel)) (
  mA (i := 15) (ok_gP (pc := 23) rfl (by decide +kernel) wd_328 inw_10 rfl rfl (by decide +kernel)) (
  mA (i := 16) (ok_ild_n (f := 3) (pc := 26) rfl rfl rfl (by decide +kernel)) (
  mA (i := 17) (ok_callP (pc := 27) (can_V cal_St_clause (by decide +kernel) rfl (by decide +kernel) rfl wd_383 wd_171 wd_172 wd_80 (by decide +kernel)) rfl rfl) (
  mA (i := 18) (ok_ast (pc := 30) (by decide +kernel) rfl rfl rfl (by decide +kernel)) (
  mA (i := 19) (ok_ald (pc := 32) rfl rfl (by decide +kernel)) (
  mA (i := 20) (ok_nullp (off := 18) (pc := 34) (tgt := 52) rfl rfl rfl (by decide +kernel) (by decide +kernel)) (
  mA (i := 21) (ok_ald_n (f := 0) (pc := 37) rfl rfl rfl (by decide +kernel)) (
  mA (i := 22) (ok_gP (pc := 38) rfl (by decide +kernel) wd_303 inw_10 rfl rfl (by decide +kernel)) (
  mA (i := 23) (ok_ald_n (f := 2) (pc := 41) rfl rfl rfl (by decide +kernel)) (
  mA (i := 24) (ok_ald (pc := 42) rfl rfl (by decide +kernel)) (
  mA (i := 25) (ok_callI (pc := 44) (can_V cal_Ma_findsRenaming (by decide +kernel) rfl (by decide +kernel) rfl wd_428 wd_429 wd_430 wd_98 (by decide +kernel)) rfl rfl) (
  mA (i := 26) (ok_ifeq (off := 5) (pc := 47) (tgt := 52) rfl rfl rfl (by decide +kernel) (by decide +kernel)) (
  mA (i := 27) (ok_ic (n := 1) (pc := 50) (by decide +kernel) rfl rfl (by decide +kernel)) (
  mA (i := 28) (ok_zret (pc := 51) rfl rfl (by decide +kernel)) (
  mA (i := 29) (ok_inc (z := 1) (pc := 52) (by decide +kernel) (by decide +kernel) rfl rfl rfl (by decide +kernel)) (
  mA (i := 30) (ok_goto (off := (-38)) (pc := 55) (tgt := 17) rfl rfl (by decide +kernel) (by decide +kernel)) (
  mA (i := 31) (ok_ic (n := 0) (pc := 58) (by decide +kernel) rfl rfl (by decide +kernel)) (
  mA (i := 32) (ok_zret (pc := 59) rfl rfl (by decide +kernel)) (
  mZ)))))))))))))))))))))))))))))))))
set_option maxRecDepth 20000 in
theorem ok_C_floatBits : mAll (mOk RX9 cX9_floatBits 7 false false (some .int) (mnat p_C_floatBits)) 0 k_C_floatBits := mA (i := 0) (ok_ild_n (f := 0) (pc := 0) rfl rfl rfl (by decide +kernel)) (
  mA (i := 1) (ok_ifle (off := 7) (pc := 1) (tgt := 8) rfl rfl rfl (by decide +kernel) (by decide +kernel)) (
  mA (i := 2) (ok_ild_n (f := 1) (pc := 4) rfl rfl rfl (by decide +kernel)) (
  mA (i := 3) (ok_ifgt (off := 5) (pc := 5) (tgt := 10) rfl rfl rfl (by decide +kernel) (by decide +kernel)) (
  mA (i := 4) (ok_ic (n := 0) (pc := 8) (by decide +kernel) rfl rfl (by decide +kernel)) (
  mA (i := 5) (ok_iret (pc := 9) rfl rfl (by decide +kernel)) (
  mA (i := 6) (ok_ild_n (f := 0) (pc := 10) rfl rfl rfl (by decide +kernel)) (
  mA (i := 7) (ok_i2l (pc := 11) rfl rfl (by decide +kernel)) (
  mA (i := 8) (ok_lst_n (f := 2) (pc := 12) rfl (by decide +kernel) rfl rfl rfl (by decide +kernel)) (
  mA (i := 9) (ok_ic (n := 0) (pc := 13) (by decide +kernel) rfl rfl (by decide +kernel)) (
  mA (i := 10) (ok_istL (pc := 14) (by decide +kernel) rfl rfl (by decide +kernel)) (
  mA (i := 11) (ok_ild (pc := 16) rfl rfl (by decide +kernel)) (
  mA (i := 12) (ok_bi (n := 40) (pc := 18) (by decide +kernel) rfl rfl (by decide +kernel)) (
  mA (i := 13) (ok_cge (off := 24) (pc := 20) (tgt := 44) rfl rfl rfl (by decide +kernel) (by decide +kernel)) (
  mA (i := 14) (ok_lld_n (f := 2) (pc := 23) rfl rfl rfl (by decide +kernel)) (
  mA (i := 15) (ok_ild_n (f := 1) (pc := 24) rfl rfl rfl (by decide +kernel)) (
  mA (i := 16) (ok_i2l (pc := 25) rfl rfl (by decide +kernel)) (
  mA (i := 17) (ok_ldiv (pc := 26) rfl rfl (by decide +kernel)) (
  mA (i := 18) (ok_ldc2 (pc := 27) wd_572 rfl rfl (by decide +kernel)) (
  mA (i := 19) (ok_lcmp (pc := 30) rfl rfl (by decide +kernel)) (
  mA (i := 20) (ok_ifge (off := 13) (pc := 31) (tgt := 44) rfl rfl rfl (by decide +kernel) (by decide +kernel)) (
  mA (i := 21) (ok_lld_n (f := 2) (pc := 34) rfl rfl rfl (by decide +kernel)) (
  mA (i := 22) (ok_ic (n := 1) (pc := 35) (by decide +kernel) rfl rfl (by decide +kernel)) (
  mA (i := 23) (ok_lshl (pc := 36) rfl rfl (by decide +kernel)) (
  mA (i := 24) (ok_lst_n (f := 2) (pc := 37) rfl (by decide +kernel) rfl rfl rfl (by decide +kernel)) (
  mA (i := 25) (ok_incL (z := 1) (pc := 38) (by decide +kernel) (by decide +kernel) rfl rfl (by decide +kernel)) (
  mA (i := 26) (ok_goto (off := (-25)) (pc := 41) (tgt := 16) rfl rfl (by decide +kernel) (by decide +kernel)) (
  mA (i := 27) (ok_lld_n (f := 2) (pc := 44) rfl rfl rfl (by decide +kernel)) (
  mA (i := 28) (ok_ild_n (f := 1) (pc := 45) rfl rfl rfl (by decide +kernel)) (
  mA (i := 29) (ok_i2l (pc := 46) rfl rfl (by decide +kernel)) (
  mA (i := 30) (ok_ldiv (pc := 47) rfl rfl (by decide +kernel)) (
  mA (i := 31) (ok_lst (pc := 48) (by decide +kernel) rfl rfl rfl (by decide +kernel)) (
  mA (i := 32) (ok_ldc2 (pc := 50) wd_573 rfl rfl (by decide +kernel)) (
  mA (i := 33) (ok_lld_n (f := 2) (pc := 53) rfl rfl rfl (by decide +kernel)) (
  mA (i := 34) (ok_ild_n (f := 1) (pc := 54) rfl rfl rfl (by decide +kernel)) (
  mA (i := 35) (ok_i2l (pc := 55) rfl rfl (by decide +kernel)) (
  mA (i := 36) (ok_lrem (pc := 56) rfl rfl (by decide +kernel)) (
  mA (i := 37) (ok_lmul (pc := 57) rfl rfl (by decide +kernel)) (
  mA (i := 38) (ok_ild_n (f := 1) (pc := 58) rfl rfl rfl (by decide +kernel)) (
  mA (i := 39) (ok_i2l (pc := 59) rfl rfl (by decide +kernel)) (
  mA (i := 40) (ok_lcmp (pc := 60) rfl rfl (by decide +kernel)) (
  mA (i := 41) (ok_ifle (off := 9) (pc := 61) (tgt := 70) rfl rfl rfl (by decide +kernel) (by decide +kernel)) (
  mA (i := 42) (ok_lld (pc := 64) rfl rfl (by decide +kernel)) (
  mA (i := 43) (ok_lc (n := 1) (pc := 66) (by decide +kernel) rfl rfl (by decide +kernel)) (
  mA (i := 44) (ok_ladd (pc := 67) rfl rfl (by decide +kernel)) (
  mA (i := 45) (ok_lst (pc := 68) (by decide +kernel) rfl rfl rfl (by decide +kernel)) (
  mA (i := 46) (ok_si (n := 150) (pc := 70) (by decide +kernel) rfl rfl (by decide +kernel)) (
  mA (i := 47) (ok_ild (pc := 73) rfl rfl (by decide +kernel)) (
  mA (i := 48) (ok_sub (pc := 75) rfl rfl (by decide +kernel)) (
  mA (i := 49) (ok_bi (n := 23) (pc := 76) (by decide +kernel) rfl rfl (by decide +kernel)) (
  mA (i := 50) (ok_shl (pc := 78) rfl rfl (by decide +kernel)) (
  mA (i := 51) (ok_lld (pc := 79) rfl rfl (by decide +kernel)) (
  mA (i := 52) (ok_ldc2 (pc := 81) wd_572 rfl rfl (by decide +kernel)) (
  mA (i := 53) (ok_lsub (pc := 84) rfl rfl (by decide +kernel)) (
  mA (i := 54) (ok_l2i (pc := 85) rfl rfl (by decide +kernel)) (
  mA (i := 55) (ok_add (pc := 86) rfl rfl (by decide +kernel)) (
  mA (i := 56) (ok_iret (pc := 87) rfl rfl (by decide +kernel)) (
  mZ)))))))))))))))))))))))))))))))))))))))))))))))))))))))))
