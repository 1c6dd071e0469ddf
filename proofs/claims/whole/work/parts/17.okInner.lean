set_option maxRecDepth 20000 in
theorem ok_Cl_init_t60 : mAll (mOk RX0 cX0_init 4 true true none (mnat p_Cl_init)) 60 [o_ald 0, o_gP 1 4, o_callV 2 3 0, o_vret] := mA (i := 60) (ok_ald_n (f := 0) (pc := 107) rfl rfl rfl (by decide +kernel)) (
  mA (i := 61) (ok_gP (pc := 108) rfl (by decide +kernel) wd_3 inw_1 rfl rfl (by decide +kernel)) (
  mA (i := 62) (ok_callV (pc := 111) (can_S cal_Cl_measureAll (by decide +kernel) wd_28 wd_27 wd_24 (by decide +kernel)) rfl rfl) (
  mA (i := 63) (ok_vret (pc := 114) rfl rfl (by decide +kernel)) (
  mZ))))
set_option maxRecDepth 20000 in
theorem ok_Cl_init : mAll (mOk RX0 cX0_init 4 true true none (mnat p_Cl_init)) 0 k_Cl_init := mA (i := 0) (ok_ald_n (f := 0) (pc := 0) rfl rfl rfl (by decide +kernel)) (
  mA (i := 1) (ok_obj (pc := 1) wd_0 wd_1 wd_objc rfl rfl (by decide +kernel)) (
  mA (i := 2) (ok_ald_n (f := 0) (pc := 4) rfl rfl rfl (by decide +kernel)) (
  mA (i := 3) (ok_bi (n := 40) (pc := 5) (by decide +kernel) rfl rfl (by decide +kernel)) (
  mA (i := 4) (ok_newi (pc := 7) wd_2 rfl rfl (by decide +kernel)) (
  mA (i := 5) (ok_pPF (pc := 9) rfl (by decide +kernel) wd_3 inw_1 tyX0_ok nmX0 rfl rfl rfl (tyX0_ok 4 (by decide +kernel)) rfl rfl rfl (by decide +kernel)) (
  mA (i := 6) (ok_ald_n (f := 1) (pc := 12) rfl rfl rfl (by decide +kernel)) (
  mA (i := 7) (ok_callI (pc := 13) (can_V cal_Dr_size (by decide +kernel) rfl (by decide +kernel) rfl wd_4 wd_5 wd_6 wd_7 (by decide +kernel)) rfl rfl) (
  mA (i := 8) (ok_ic (n := 0) (pc := 16) (by decide +kernel) rfl rfl (by decide +kernel)) (
  mA (i := 9) (ok_callI (pc := 17) (can_S cal_Jm_max (by decide +kernel) wd_10 wd_8 wd_9 (by decide +kernel)) rfl rfl) (
  mA (i := 10) (ok_ist_n (f := 2) (pc := 20) rfl (by decide +kernel) rfl rfl rfl (by decide +kernel)) (
  mA (i := 11) (ok_ald_n (f := 0) (pc := 21) rfl rfl rfl (by decide +kernel)) (
  mA (i := 12) (ok_ild_n (f := 2) (pc := 22) rfl rfl rfl (by decide +kernel)) (
  mA (i := 13) (ok_newi (pc := 23) wd_2 rfl rfl (by decide +kernel)) (
  mA (i := 14) (ok_pPF (pc := 25) rfl (by decide +kernel) wd_11 inw_1 tyX0_ok nmX0 rfl rfl rfl (tyX0_ok 0 (by decide +kernel)) rfl rfl rfl (by decide +kernel)) (
  mA (i := 15) (ok_ald_n (f := 0) (pc := 28) rfl rfl rfl (by decide +kernel)) (
  mA (i := 16) (ok_ild_n (f := 2) (pc := 29) rfl rfl rfl (by decide +kernel)) (
  mA (i := 17) (ok_newi (pc := 30) wd_2 rfl rfl (by decide +kernel)) (
  mA (i := 18) (ok_pPF (pc := 32) rfl (by decide +kernel) wd_12 inw_1 tyX0_ok nmX0 rfl rfl rfl (tyX0_ok 1 (by decide +kernel)) rfl rfl rfl (by decide +kernel)) (
  mA (i := 19) (ok_ald_n (f := 0) (pc := 35) rfl rfl rfl (by decide +kernel)) (
  mA (i := 20) (ok_ild_n (f := 2) (pc := 36) rfl rfl rfl (by decide +kernel)) (
  mA (i := 21) (ok_newi (pc := 37) wd_2 rfl rfl (by decide +kernel)) (
  mA (i := 22) (ok_pPF (pc := 39) rfl (by decide +kernel) wd_13 inw_1 tyX0_ok nmX0 rfl rfl rfl (tyX0_ok 2 (by decide +kernel)) rfl rfl rfl (by decide +kernel)) (
  mA (i := 23) (ok_ic (n := 0) (pc := 42) (by decide +kernel) rfl rfl (by decide +kernel)) (
  mA (i := 24) (ok_ist_n (f := 3) (pc := 43) rfl (by decide +kernel) rfl rfl rfl (by decide +kernel)) (
  mA (i := 25) (ok_ild_n (f := 3) (pc := 44) rfl rfl rfl (by decide +kernel)) (
  mA (i := 26) (ok_ild_n (f := 2) (pc := 45) rfl rfl rfl (by decide +kernel)) (
  mA (i := 27) (ok_cge (off := 42) (pc := 46) (tgt := 88) rfl rfl rfl (by decide +kernel) (by decide +kernel)) (
  mA (i := 28) (ok_ald_n (f := 0) (pc := 49) rfl rfl rfl (by decide +kernel)) (
  mA (i := 29) (ok_gP (pc := 50) rfl (by decide +kernel) wd_11 inw_1 rfl rfl (by decide +kernel)) (
  mA (i := 30) (ok_ild_n (f := 3) (pc := 53) rfl rfl rfl (by decide +kernel)) (
  mA (i := 31) (ok_ald_n (f := 1) (pc := 54) rfl rfl rfl (by decide +kernel)) (
  mA (i := 32) (ok_ild_n (f := 3) (pc := 55) rfl rfl rfl (by decide +kernel)) (
  mA (i := 33) (ok_callI (pc := 56) (can_V cal_Dr_codeAt (by decide +kernel) rfl (by decide +kernel) rfl wd_14 wd_15 wd_16 wd_7 (by decide +kernel)) rfl rfl) (
  mA (i := 34) (ok_iast (pc := 59) rfl rfl (by decide +kernel)) (
  mA (i := 35) (ok_ald_n (f := 0) (pc := 60) rfl rfl rfl (by decide +kernel)) (
  mA (i := 36) (ok_gP (pc := 61) rfl (by decide +kernel) wd_12 inw_1 rfl rfl (by decide +kernel)) (
  mA (i := 37) (ok_ild_n (f := 3) (pc := 64) rfl rfl rfl (by decide +kernel)) (
  mA (i := 38) (ok_ald_n (f := 1) (pc := 65) rfl rfl rfl (by decide +kernel)) (
  mA (i := 39) (ok_ild_n (f := 3) (pc := 66) rfl rfl rfl (by decide +kernel)) (
  mA (i := 40) (ok_callI (pc := 67) (can_V cal_Dr_depthAt (by decide +kernel) rfl (by decide +kernel) rfl wd_17 wd_18 wd_19 wd_7 (by decide +kernel)) rfl rfl) (
  mA (i := 41) (ok_iast (pc := 70) rfl rfl (by decide +kernel)) (
  mA (i := 42) (ok_ald_n (f := 0) (pc := 71) rfl rfl rfl (by decide +kernel)) (
  mA (i := 43) (ok_gP (pc := 72) rfl (by decide +kernel) wd_13 inw_1 rfl rfl (by decide +kernel)) (
  mA (i := 44) (ok_ild_n (f := 3) (pc := 75) rfl rfl rfl (by decide +kernel)) (
  mA (i := 45) (ok_ald_n (f := 1) (pc := 76) rfl rfl rfl (by decide +kernel)) (
  mA (i := 46) (ok_ild_n (f := 3) (pc := 77) rfl rfl rfl (by decide +kernel)) (
  mA (i := 47) (ok_callI (pc := 78) (can_V cal_Dr_endOfTerm (by decide +kernel) rfl (by decide +kernel) rfl wd_20 wd_21 wd_22 wd_7 (by decide +kernel)) rfl rfl) (
  mA (i := 48) (ok_iast (pc := 81) rfl rfl (by decide +kernel)) (
  mA (i := 49) (ok_inc (z := 1) (pc := 82) (by decide +kernel) (by decide +kernel) rfl rfl rfl (by decide +kernel)) (
  mA (i := 50) (ok_goto (off := (-41)) (pc := 85) (tgt := 44) rfl rfl (by decide +kernel) (by decide +kernel)) (
  mA (i := 51) (ok_ald_n (f := 0) (pc := 88) rfl rfl rfl (by decide +kernel)) (
  mA (i := 52) (ok_ald_n (f := 0) (pc := 89) rfl rfl rfl (by decide +kernel)) (
  mA (i := 53) (ok_gP (pc := 90) rfl (by decide +kernel) wd_11 inw_1 rfl rfl (by decide +kernel)) (
  mA (i := 54) (ok_callP (pc := 93) (can_S cal_Cl_startsOf (by decide +kernel) wd_25 wd_23 wd_24 (by decide +kernel)) rfl rfl) (
  mA (i := 55) (ok_pPF (pc := 96) rfl (by decide +kernel) wd_26 inw_1 tyX0_ok nmX0 rfl rfl rfl (tyX0_ok 3 (by decide +kernel)) rfl rfl rfl (by decide +kernel)) (
  mA (i := 56) (ok_ald_n (f := 0) (pc := 99) rfl rfl rfl (by decide +kernel)) (
  mA (i := 57) (ok_gP (pc := 100) rfl (by decide +kernel) wd_11 inw_1 rfl rfl (by decide +kernel)) (
  mA (i := 58) (ok_ald_n (f := 0) (pc := 103) rfl rfl rfl (by decide +kernel)) (
  mA (i := 59) (ok_gP (pc := 104) rfl (by decide +kernel) wd_12 inw_1 rfl rfl (by decide +kernel)) (
  ok_Cl_init_t60))))))))))))))))))))))))))))))))))))))))))))))))))))))))))))
set_option maxRecDepth 20000 in
theorem ok_Cl_startsOf : mAll (mOk RX0 cX0_startsOf 5 true false (some (.array .int)) (mnat p_Cl_startsOf)) 0 k_Cl_startsOf := mA (i := 0) (ok_ic (n := 0) (pc := 0) (by decide +kernel) rfl rfl (by decide +kernel)) (
  mA (i := 1) (ok_ist_n (f := 1) (pc := 1) rfl (by decide +kernel) rfl rfl rfl (by decide +kernel)) (
  mA (i := 2) (ok_ic (n := 0) (pc := 2) (by decide +kernel) rfl rfl (by decide +kernel)) (
  mA (i := 3) (ok_ist_n (f := 2) (pc := 3) rfl (by decide +kernel) rfl rfl rfl (by decide +kernel)) (
  mA (i := 4) (ok_ild_n (f := 2) (pc := 4) rfl rfl rfl (by decide +kernel)) (
  mA (i := 5) (ok_ald_n (f := 0) (pc := 5) rfl rfl rfl (by decide +kernel)) (
  mA (i := 6) (ok_len (pc := 6) (by decide +kernel) rfl rfl (by decide +kernel)) (
  mA (i := 7) (ok_cge (off := 20) (pc := 7) (tgt := 27) rfl rfl rfl (by decide +kernel) (by decide +kernel)) (
  mA (i := 8) (ok_ald_n (f := 0) (pc := 10) rfl rfl rfl (by decide +kernel)) (
  mA (i := 9) (ok_ild_n (f := 2) (pc := 11) rfl rfl rfl (by decide +kernel)) (
  mA (i := 10) (ok_iald (pc := 12) rfl rfl (by decide +kernel)) (
  mA (i := 11) (ok_bi (n := 100) (pc := 13) (by decide +kernel) rfl rfl (by decide +kernel)) (
  mA (i := 12) (ok_clt (off := 6) (pc := 15) (tgt := 21) rfl rfl rfl (by decide +kernel) (by decide +kernel)) (
  mA (i := 13) (ok_inc (z := 1) (pc := 18) (by decide +kernel) (by decide +kernel) rfl rfl rfl (by decide +kernel)) (
  mA (i := 14) (ok_inc (z := 1) (pc := 21) (by decide +kernel) (by decide +kernel) rfl rfl rfl (by decide +kernel)) (
  mA (i := 15) (ok_goto (off := (-20)) (pc := 24) (tgt := 4) rfl rfl (by decide +kernel) (by decide +kernel)) (
  mA (i := 16) (ok_ild_n (f := 1) (pc := 27) rfl rfl rfl (by decide +kernel)) (
  mA (i := 17) (ok_ic (n := 1) (pc := 28) (by decide +kernel) rfl rfl (by decide +kernel)) (
  mA (i := 18) (ok_add (pc := 29) rfl rfl (by decide +kernel)) (
  mA (i := 19) (ok_newi (pc := 30) wd_2 rfl rfl (by decide +kernel)) (
  mA (i := 20) (ok_ast_n (f := 2) (pc := 32) rfl (by decide +kernel) rfl rfl rfl (by decide +kernel)) (
  mA (i := 21) (ok_ic (n := 0) (pc := 33) (by decide +kernel) rfl rfl (by decide +kernel)) (
  mA (i := 22) (ok_ist_n (f := 3) (pc := 34) rfl (by decide +kernel) rfl rfl rfl (by decide +kernel)) (
  mA (i := 23) (ok_ic (n := 0) (pc := 35) (by decide +kernel) rfl rfl (by decide +kernel)) (
  mA (i := 24) (ok_ist (pc := 36) (by decide +kernel) rfl rfl rfl (by decide +kernel)) (
  mA (i := 25) (ok_ild (pc := 38) rfl rfl (by decide +kernel)) (
  mA (i := 26) (ok_ald_n (f := 0) (pc := 40) rfl rfl rfl (by decide +kernel)) (
  mA (i := 27) (ok_len (pc := 41) (by decide +kernel) rfl rfl (by decide +kernel)) (
  mA (i := 28) (ok_cge (off := 31) (pc := 42) (tgt := 73) rfl rfl rfl (by decide +kernel) (by decide +kernel)) (
  mA (i := 29) (ok_ald_n (f := 0) (pc := 45) rfl rfl rfl (by decide +kernel)) (
  mA (i := 30) (ok_ild (pc := 46) rfl rfl (by decide +kernel)) (
  mA (i := 31) (ok_iald (pc := 48) rfl rfl (by decide +kernel)) (
  mA (i := 32) (ok_bi (n := 100) (pc := 49) (by decide +kernel) rfl rfl (by decide +kernel)) (
  mA (i := 33) (ok_clt (off := 16) (pc := 51) (tgt := 67) rfl rfl rfl (by decide +kernel) (by decide +kernel)) (
  mA (i := 34) (ok_ild_n (f := 3) (pc := 54) rfl rfl rfl (by decide +kernel)) (
  mA (i := 35) (ok_ild_n (f := 1) (pc := 55) rfl rfl rfl (by decide +kernel)) (
  mA (i := 36) (ok_cge (off := 11) (pc := 56) (tgt := 67) rfl rfl rfl (by decide +kernel) (by decide +kernel)) (
  mA (i := 37) (ok_ald_n (f := 2) (pc := 59) rfl rfl rfl (by decide +kernel)) (
  mA (i := 38) (ok_ild_n (f := 3) (pc := 60) rfl rfl rfl (by decide +kernel)) (
  mA (i := 39) (ok_ild (pc := 61) rfl rfl (by decide +kernel)) (
  mA (i := 40) (ok_iast (pc := 63) rfl rfl (by decide +kernel)) (
  mA (i := 41) (ok_inc (z := 1) (pc := 64) (by decide +kernel) (by decide +kernel) rfl rfl rfl (by decide +kernel)) (
  mA (i := 42) (ok_inc (z := 1) (pc := 67) (by decide +kernel) (by decide +kernel) rfl rfl rfl (by decide +kernel)) (
  mA (i := 43) (ok_goto (off := (-32)) (pc := 70) (tgt := 38) rfl rfl (by decide +kernel) (by decide +kernel)) (
  mA (i := 44) (ok_ald_n (f := 2) (pc := 73) rfl rfl rfl (by decide +kernel)) (
  mA (i := 45) (ok_ild_n (f := 1) (pc := 74) rfl rfl rfl (by decide +kernel)) (
  mA (i := 46) (ok_ald_n (f := 0) (pc := 75) rfl rfl rfl (by decide +kernel)) (
  mA (i := 47) (ok_len (pc := 76) (by decide +kernel) rfl rfl (by decide +kernel)) (
  mA (i := 48) (ok_iast (pc := 77) rfl rfl (by decide +kernel)) (
  mA (i := 49) (ok_ald_n (f := 2) (pc := 78) rfl rfl rfl (by decide +kernel)) (
  mA (i := 50) (ok_aret (pc := 79) (Or.inr ⟨_, rfl⟩) rfl (by decide +kernel)) (
  mZ)))))))))))))))))))))))))))))))))))))))))))))))))))
set_option maxRecDepth 20000 in
theorem ok_Cl_measureAll_t60 : mAll (mOk RX0 cX0_measureAll 6 true false none (mnat p_Cl_measureAll)) 60 [o_vret] := mA (i := 60) (ok_vret (pc := 97) rfl rfl (by decide +kernel)) (
  mZ)
set_option maxRecDepth 20000 in
theorem ok_Cl_measureAll : mAll (mOk RX0 cX0_measureAll 6 true false none (mnat p_Cl_measureAll)) 0 k_Cl_measureAll := mA (i := 0) (ok_ic (n := 0) (pc := 0) (by decide +kernel) rfl rfl (by decide +kernel)) (
  mA (i := 1) (ok_ist_n (f := 3) (pc := 1) rfl (by decide +kernel) rfl rfl rfl (by decide +kernel)) (
  mA (i := 2) (ok_ic (n := 0) (pc := 2) (by decide +kernel) rfl rfl (by decide +kernel)) (
  mA (i := 3) (ok_ist (pc := 3) (by decide +kernel) rfl rfl rfl (by decide +kernel)) (
  mA (i := 4) (ok_ild (pc := 5) rfl rfl (by decide +kernel)) (
  mA (i := 5) (ok_ald_n (f := 0) (pc := 7) rfl rfl rfl (by decide +kernel)) (
  mA (i := 6) (ok_len (pc := 8) (by decide +kernel) rfl rfl (by decide +kernel)) (
  mA (i := 7) (ok_cge (off := 88) (pc := 9) (tgt := 97) rfl rfl rfl (by decide +kernel) (by decide +kernel)) (
  mA (i := 8) (ok_ild (pc := 12) rfl rfl (by decide +kernel)) (
  mA (i := 9) (ok_ald_n (f := 1) (pc := 14) rfl rfl rfl (by decide +kernel)) (
  mA (i := 10) (ok_len (pc := 15) (by decide +kernel) rfl rfl (by decide +kernel)) (
  mA (i := 11) (ok_cge (off := 81) (pc := 16) (tgt := 97) rfl rfl rfl (by decide +kernel) (by decide +kernel)) (
  mA (i := 12) (ok_ald_n (f := 0) (pc := 19) rfl rfl rfl (by decide +kernel)) (
  mA (i := 13) (ok_ild (pc := 20) rfl rfl (by decide +kernel)) (
  mA (i := 14) (ok_iald (pc := 22) rfl rfl (by decide +kernel)) (
  mA (i := 15) (ok_ist (pc := 23) (by decide +kernel) rfl rfl rfl (by decide +kernel)) (
  mA (i := 16) (ok_ild (pc := 25) rfl rfl (by decide +kernel)) (
  mA (i := 17) (ok_bi (n := 100) (pc := 27) (by decide +kernel) rfl rfl (by decide +kernel)) (
  mA (i := 18) (ok_clt (off := 22) (pc := 29) (tgt := 51) rfl rfl rfl (by decide +kernel) (by decide +kernel)) (
  mA (i := 19) (ok_ild (pc := 32) rfl rfl (by decide +kernel)) (
  mA (i := 20) (ok_ic (n := 1) (pc := 34) (by decide +kernel) rfl rfl (by decide +kernel)) (
  mA (i := 21) (ok_and (pc := 35) rfl rfl (by decide +kernel)) (
  mA (i := 22) (ok_ist_n (f := 3) (pc := 36) rfl (by decide +kernel) rfl rfl rfl (by decide +kernel)) (
  mA (i := 23) (ok_ald_n (f := 2) (pc := 37) rfl rfl rfl (by decide +kernel)) (
  mA (i := 24) (ok_ild (pc := 38) rfl rfl (by decide +kernel)) (
  mA (i := 25) (ok_bi (n := 100) (pc := 40) (by decide +kernel) rfl rfl (by decide +kernel)) (
  mA (i := 26) (ok_sub (pc := 42) rfl rfl (by decide +kernel)) (
  mA (i := 27) (ok_ic (n := 1) (pc := 43) (by decide +kernel) rfl rfl (by decide +kernel)) (
  mA (i := 28) (ok_ic (n := 0) (pc := 44) (by decide +kernel) rfl rfl (by decide +kernel)) (
  mA (i := 29) (ok_callV (pc := 45) (can_S cal_Cl_raise (by decide +kernel) wd_30 wd_29 wd_24 (by decide +kernel)) rfl rfl) (
  mA (i := 30) (ok_goto (off := 43) (pc := 48) (tgt := 91) rfl rfl (by decide +kernel) (by decide +kernel)) (
  mA (i := 31) (ok_ild (pc := 51) rfl rfl (by decide +kernel)) (
  mA (i := 32) (ok_bi (n := 8) (pc := 53) (by decide +kernel) rfl rfl (by decide +kernel)) (
  mA (i := 33) (ok_cge (off := 36) (pc := 55) (tgt := 91) rfl rfl rfl (by decide +kernel) (by decide +kernel)) (
  mA (i := 34) (ok_ald_n (f := 2) (pc := 58) rfl rfl rfl (by decide +kernel)) (
  mA (i := 35) (ok_bi (n := 8) (pc := 59) (by decide +kernel) rfl rfl (by decide +kernel)) (
  mA (i := 36) (ok_ic (n := 2) (pc := 61) (by decide +kernel) rfl rfl (by decide +kernel)) (
  mA (i := 37) (ok_ild (pc := 62) rfl rfl (by decide +kernel)) (
  mA (i := 38) (ok_mul (pc := 64) rfl rfl (by decide +kernel)) (
  mA (i := 39) (ok_add (pc := 65) rfl rfl (by decide +kernel)) (
  mA (i := 40) (ok_ild_n (f := 3) (pc := 66) rfl rfl rfl (by decide +kernel)) (
  mA (i := 41) (ok_add (pc := 67) rfl rfl (by decide +kernel)) (
  mA (i := 42) (ok_ic (n := 1) (pc := 68) (by decide +kernel) rfl rfl (by decide +kernel)) (
  mA (i := 43) (ok_ic (n := 0) (pc := 69) (by decide +kernel) rfl rfl (by decide +kernel)) (
  mA (i := 44) (ok_callV (pc := 70) (can_S cal_Cl_raise (by decide +kernel) wd_30 wd_29 wd_24 (by decide +kernel)) rfl rfl) (
  mA (i := 45) (ok_ald_n (f := 2) (pc := 73) rfl rfl rfl (by decide +kernel)) (
  mA (i := 46) (ok_bi (n := 24) (pc := 74) (by decide +kernel) rfl rfl (by decide +kernel)) (
  mA (i := 47) (ok_ic (n := 2) (pc := 76) (by decide +kernel) rfl rfl (by decide +kernel)) (
  mA (i := 48) (ok_ild (pc := 77) rfl rfl (by decide +kernel)) (
  mA (i := 49) (ok_mul (pc := 79) rfl rfl (by decide +kernel)) (
  mA (i := 50) (ok_add (pc := 80) rfl rfl (by decide +kernel)) (
  mA (i := 51) (ok_ild_n (f := 3) (pc := 81) rfl rfl rfl (by decide +kernel)) (
  mA (i := 52) (ok_add (pc := 82) rfl rfl (by decide +kernel)) (
  mA (i := 53) (ok_ic (n := 0) (pc := 83) (by decide +kernel) rfl rfl (by decide +kernel)) (
  mA (i := 54) (ok_ald_n (f := 1) (pc := 84) rfl rfl rfl (by decide +kernel)) (
  mA (i := 55) (ok_ild (pc := 85) rfl rfl (by decide +kernel)) (
  mA (i := 56) (ok_iald (pc := 87) rfl rfl (by decide +kernel)) (
  mA (i := 57) (ok_callV (pc := 88) (can_S cal_Cl_raise (by decide +kernel) wd_30 wd_29 wd_24 (by decide +kernel)) rfl rfl) (
  mA (i := 58) (ok_inc (z := 1) (pc := 91) (by decide +kernel) (by decide +kernel) rfl rfl rfl (by decide +kernel)) (
  mA (i := 59) (ok_goto (off := (-89)) (pc := 94) (tgt := 5) rfl rfl (by decide +kernel) (by decide +kernel)) (
  ok_Cl_measureAll_t60))))))))))))))))))))))))))))))))))))))))))))))))))))))))))))
set_option maxRecDepth 20000 in
theorem ok_Cl_raise : mAll (mOk RX0 cX0_raise 4 true false none (mnat p_Cl_raise)) 0 k_Cl_raise := mA (i := 0) (ok_ild_n (f := 1) (pc := 0) rfl rfl rfl (by decide +kernel)) (
  mA (i := 1) (ok_iflt (off := 21) (pc := 1) (tgt := 22) rfl rfl rfl (by decide +kernel) (by decide +kernel)) (
  mA (i := 2) (ok_ild_n (f := 1) (pc := 4) rfl rfl rfl (by decide +kernel)) (
  mA (i := 3) (ok_ald_n (f := 0) (pc := 5) rfl rfl rfl (by decide +kernel)) (
  mA (i := 4) (ok_len (pc := 6) (by decide +kernel) rfl rfl (by decide +kernel)) (
  mA (i := 5) (ok_cge (off := 15) (pc := 7) (tgt := 22) rfl rfl rfl (by decide +kernel) (by decide +kernel)) (
  mA (i := 6) (ok_ald_n (f := 0) (pc := 10) rfl rfl rfl (by decide +kernel)) (
  mA (i := 7) (ok_ild_n (f := 1) (pc := 11) rfl rfl rfl (by decide +kernel)) (
  mA (i := 8) (ok_ald_n (f := 0) (pc := 12) rfl rfl rfl (by decide +kernel)) (
  mA (i := 9) (ok_ild_n (f := 1) (pc := 13) rfl rfl rfl (by decide +kernel)) (
  mA (i := 10) (ok_iald (pc := 14) rfl rfl (by decide +kernel)) (
  mA (i := 11) (ok_ild_n (f := 2) (pc := 15) rfl rfl rfl (by decide +kernel)) (
  mA (i := 12) (ok_add (pc := 16) rfl rfl (by decide +kernel)) (
  mA (i := 13) (ok_ild_n (f := 3) (pc := 17) rfl rfl rfl (by decide +kernel)) (
  mA (i := 14) (ok_callI (pc := 18) (can_S cal_Jm_max (by decide +kernel) wd_10 wd_8 wd_9 (by decide +kernel)) rfl rfl) (
  mA (i := 15) (ok_iast (pc := 21) rfl rfl (by decide +kernel)) (
  mA (i := 16) (ok_vret (pc := 22) rfl rfl (by decide +kernel)) (
  mZ)))))))))))))))))
set_option maxRecDepth 20000 in
theorem ok_Cl_size : mAll (mOk RX0 cX0_size 1 true false (some .int) (mnat p_Cl_size)) 0 k_Cl_size := mA (i := 0) (ok_ald_n (f := 0) (pc := 0) rfl rfl rfl (by decide +kernel)) (
  mA (i := 1) (ok_gP (pc := 1) rfl (by decide +kernel) wd_26 inw_1 rfl rfl (by decide +kernel)) (
  mA (i := 2) (ok_len (pc := 4) (by decide +kernel) rfl rfl (by decide +kernel)) (
  mA (i := 3) (ok_ic (n := 1) (pc := 5) (by decide +kernel) rfl rfl (by decide +kernel)) (
  mA (i := 4) (ok_sub (pc := 6) rfl rfl (by decide +kernel)) (
  mA (i := 5) (ok_iret (pc := 7) rfl rfl (by decide +kernel)) (
  mZ))))))
set_option maxRecDepth 20000 in
theorem ok_Cl_symbols : mAll (mOk RX0 cX0_symbols 1 true false (some .int) (mnat p_Cl_symbols)) 0 k_Cl_symbols := mA (i := 0) (ok_ald_n (f := 0) (pc := 0) rfl rfl rfl (by decide +kernel)) (
  mA (i := 1) (ok_gP (pc := 1) rfl (by decide +kernel) wd_11 inw_1 rfl rfl (by decide +kernel)) (
  mA (i := 2) (ok_len (pc := 4) (by decide +kernel) rfl rfl (by decide +kernel)) (
  mA (i := 3) (ok_iret (pc := 5) rfl rfl (by decide +kernel)) (
  mZ))))
set_option maxRecDepth 20000 in
theorem ok_Cl_has : mAll (mOk RX0 cX0_has 2 true false (some .boolean) (mnat p_Cl_has)) 0 k_Cl_has := mA (i := 0) (ok_ild_n (f := 1) (pc := 0) rfl rfl rfl (by decide +kernel)) (
  mA (i := 1) (ok_iflt (off := 15) (pc := 1) (tgt := 16) rfl rfl rfl (by decide +kernel) (by decide +kernel)) (
  mA (i := 2) (ok_ild_n (f := 1) (pc := 4) rfl rfl rfl (by decide +kernel)) (
  mA (i := 3) (ok_ald_n (f := 0) (pc := 5) rfl rfl rfl (by decide +kernel)) (
  mA (i := 4) (ok_callI (pc := 6) (can_V cal_Cl_size (by decide +kernel) rfl (by decide +kernel) rfl wd_31 wd_32 wd_33 wd_24 (by decide +kernel)) rfl rfl) (
  mA (i := 5) (ok_cge (off := 7) (pc := 9) (tgt := 16) rfl rfl rfl (by decide +kernel) (by decide +kernel)) (
  mA (i := 6) (ok_ic (n := 1) (pc := 12) (by decide +kernel) rfl rfl (by decide +kernel)) (
  mA (i := 7) (ok_goto (off := 4) (pc := 13) (tgt := 17) rfl rfl (by decide +kernel) (by decide +kernel)) (
  mA (i := 8) (ok_ic (n := 0) (pc := 16) (by decide +kernel) rfl rfl (by decide +kernel)) (
  mA (i := 9) (ok_zret (pc := 17) rfl rfl (by decide +kernel)) (
  mZ))))))))))
set_option maxRecDepth 20000 in
theorem ok_Cl_start : mAll (mOk RX0 cX0_start 2 true false (some .int) (mnat p_Cl_start)) 0 k_Cl_start := mA (i := 0) (ok_ild_n (f := 1) (pc := 0) rfl rfl rfl (by decide +kernel)) (
  mA (i := 1) (ok_iflt (off := 21) (pc := 1) (tgt := 22) rfl rfl rfl (by decide +kernel) (by decide +kernel)) (
  mA (i := 2) (ok_ild_n (f := 1) (pc := 4) rfl rfl rfl (by decide +kernel)) (
  mA (i := 3) (ok_ald_n (f := 0) (pc := 5) rfl rfl rfl (by decide +kernel)) (
  mA (i := 4) (ok_gP (pc := 6) rfl (by decide +kernel) wd_26 inw_1 rfl rfl (by decide +kernel)) (
  mA (i := 5) (ok_len (pc := 9) (by decide +kernel) rfl rfl (by decide +kernel)) (
  mA (i := 6) (ok_cge (off := 12) (pc := 10) (tgt := 22) rfl rfl rfl (by decide +kernel) (by decide +kernel)) (
  mA (i := 7) (ok_ald_n (f := 0) (pc := 13) rfl rfl rfl (by decide +kernel)) (
  mA (i := 8) (ok_gP (pc := 14) rfl (by decide +kernel) wd_26 inw_1 rfl rfl (by decide +kernel)) (
  mA (i := 9) (ok_ild_n (f := 1) (pc := 17) rfl rfl rfl (by decide +kernel)) (
  mA (i := 10) (ok_iald (pc := 18) rfl rfl (by decide +kernel)) (
  mA (i := 11) (ok_goto (off := 8) (pc := 19) (tgt := 27) rfl rfl (by decide +kernel) (by decide +kernel)) (
  mA (i := 12) (ok_ald_n (f := 0) (pc := 22) rfl rfl rfl (by decide +kernel)) (
  mA (i := 13) (ok_gP (pc := 23) rfl (by decide +kernel) wd_11 inw_1 rfl rfl (by decide +kernel)) (
  mA (i := 14) (ok_len (pc := 26) (by decide +kernel) rfl rfl (by decide +kernel)) (
  mA (i := 15) (ok_iret (pc := 27) rfl rfl (by decide +kernel)) (
  mZ))))))))))))))))
set_option maxRecDepth 20000 in
theorem ok_Cl_codeAt : mAll (mOk RX0 cX0_codeAt 2 true false (some .int) (mnat p_Cl_codeAt)) 0 k_Cl_codeAt := mA (i := 0) (ok_ild_n (f := 1) (pc := 0) rfl rfl rfl (by decide +kernel)) (
  mA (i := 1) (ok_iflt (off := 21) (pc := 1) (tgt := 22) rfl rfl rfl (by decide +kernel) (by decide +kernel)) (
  mA (i := 2) (ok_ild_n (f := 1) (pc := 4) rfl rfl rfl (by decide +kernel)) (
  mA (i := 3) (ok_ald_n (f := 0) (pc := 5) rfl rfl rfl (by decide +kernel)) (
  mA (i := 4) (ok_gP (pc := 6) rfl (by decide +kernel) wd_11 inw_1 rfl rfl (by decide +kernel)) (
  mA (i := 5) (ok_len (pc := 9) (by decide +kernel) rfl rfl (by decide +kernel)) (
  mA (i := 6) (ok_cge (off := 12) (pc := 10) (tgt := 22) rfl rfl rfl (by decide +kernel) (by decide +kernel)) (
  mA (i := 7) (ok_ald_n (f := 0) (pc := 13) rfl rfl rfl (by decide +kernel)) (
  mA (i := 8) (ok_gP (pc := 14) rfl (by decide +kernel) wd_11 inw_1 rfl rfl (by decide +kernel)) (
  mA (i := 9) (ok_ild_n (f := 1) (pc := 17) rfl rfl rfl (by decide +kernel)) (
  mA (i := 10) (ok_iald (pc := 18) rfl rfl (by decide +kernel)) (
  mA (i := 11) (ok_goto (off := 4) (pc := 19) (tgt := 23) rfl rfl (by decide +kernel) (by decide +kernel)) (
  mA (i := 12) (ok_ic (n := (-1)) (pc := 22) (by decide +kernel) rfl rfl (by decide +kernel)) (
  mA (i := 13) (ok_iret (pc := 23) rfl rfl (by decide +kernel)) (
  mZ))))))))))))))
set_option maxRecDepth 20000 in
theorem ok_Cl_depthAt : mAll (mOk RX0 cX0_depthAt 2 true false (some .int) (mnat p_Cl_depthAt)) 0 k_Cl_depthAt := mA (i := 0) (ok_ild_n (f := 1) (pc := 0) rfl rfl rfl (by decide +kernel)) (
  mA (i := 1) (ok_iflt (off := 21) (pc := 1) (tgt := 22) rfl rfl rfl (by decide +kernel) (by decide +kernel)) (
  mA (i := 2) (ok_ild_n (f := 1) (pc := 4) rfl rfl rfl (by decide +kernel)) (
  mA (i := 3) (ok_ald_n (f := 0) (pc := 5) rfl rfl rfl (by decide +kernel)) (
  mA (i := 4) (ok_gP (pc := 6) rfl (by decide +kernel) wd_12 inw_1 rfl rfl (by decide +kernel)) (
  mA (i := 5) (ok_len (pc := 9) (by decide +kernel) rfl rfl (by decide +kernel)) (
  mA (i := 6) (ok_cge (off := 12) (pc := 10) (tgt := 22) rfl rfl rfl (by decide +kernel) (by decide +kernel)) (
  mA (i := 7) (ok_ald_n (f := 0) (pc := 13) rfl rfl rfl (by decide +kernel)) (
  mA (i := 8) (ok_gP (pc := 14) rfl (by decide +kernel) wd_12 inw_1 rfl rfl (by decide +kernel)) (
  mA (i := 9) (ok_ild_n (f := 1) (pc := 17) rfl rfl rfl (by decide +kernel)) (
  mA (i := 10) (ok_iald (pc := 18) rfl rfl (by decide +kernel)) (
  mA (i := 11) (ok_goto (off := 4) (pc := 19) (tgt := 23) rfl rfl (by decide +kernel) (by decide +kernel)) (
  mA (i := 12) (ok_ic (n := 0) (pc := 22) (by decide +kernel) rfl rfl (by decide +kernel)) (
  mA (i := 13) (ok_iret (pc := 23) rfl rfl (by decide +kernel)) (
  mZ))))))))))))))
set_option maxRecDepth 20000 in
theorem ok_Cl_endOfTerm : mAll (mOk RX0 cX0_endOfTerm 2 true false (some .int) (mnat p_Cl_endOfTerm)) 0 k_Cl_endOfTerm := mA (i := 0) (ok_ild_n (f := 1) (pc := 0) rfl rfl rfl (by decide +kernel)) (
  mA (i := 1) (ok_iflt (off := 21) (pc := 1) (tgt := 22) rfl rfl rfl (by decide +kernel) (by decide +kernel)) (
  mA (i := 2) (ok_ild_n (f := 1) (pc := 4) rfl rfl rfl (by decide +kernel)) (
  mA (i := 3) (ok_ald_n (f := 0) (pc := 5) rfl rfl rfl (by decide +kernel)) (
  mA (i := 4) (ok_gP (pc := 6) rfl (by decide +kernel) wd_13 inw_1 rfl rfl (by decide +kernel)) (
  mA (i := 5) (ok_len (pc := 9) (by decide +kernel) rfl rfl (by decide +kernel)) (
  mA (i := 6) (ok_cge (off := 12) (pc := 10) (tgt := 22) rfl rfl rfl (by decide +kernel) (by decide +kernel)) (
  mA (i := 7) (ok_ald_n (f := 0) (pc := 13) rfl rfl rfl (by decide +kernel)) (
  mA (i := 8) (ok_gP (pc := 14) rfl (by decide +kernel) wd_13 inw_1 rfl rfl (by decide +kernel)) (
  mA (i := 9) (ok_ild_n (f := 1) (pc := 17) rfl rfl rfl (by decide +kernel)) (
  mA (i := 10) (ok_iald (pc := 18) rfl rfl (by decide +kernel)) (
  mA (i := 11) (ok_goto (off := 8) (pc := 19) (tgt := 27) rfl rfl (by decide +kernel) (by decide +kernel)) (
  mA (i := 12) (ok_ald_n (f := 0) (pc := 22) rfl rfl rfl (by decide +kernel)) (
  mA (i := 13) (ok_gP (pc := 23) rfl (by decide +kernel) wd_11 inw_1 rfl rfl (by decide +kernel)) (
  mA (i := 14) (ok_len (pc := 26) (by decide +kernel) rfl rfl (by decide +kernel)) (
  mA (i := 15) (ok_iret (pc := 27) rfl rfl (by decide +kernel)) (
  mZ))))))))))))))))
set_option maxRecDepth 20000 in
theorem ok_Cl_variableBits : mAll (mOk RX0 cX0_variableBits 3 true false (some .int) (mnat p_Cl_variableBits)) 0 k_Cl_variableBits := mA (i := 0) (ok_ic (n := 0) (pc := 0) (by decide +kernel) rfl rfl (by decide +kernel)) (
  mA (i := 1) (ok_ist_n (f := 1) (pc := 1) rfl (by decide +kernel) rfl rfl rfl (by decide +kernel)) (
  mA (i := 2) (ok_ic (n := 0) (pc := 2) (by decide +kernel) rfl rfl (by decide +kernel)) (
  mA (i := 3) (ok_ist_n (f := 2) (pc := 3) rfl (by decide +kernel) rfl rfl rfl (by decide +kernel)) (
  mA (i := 4) (ok_ild_n (f := 2) (pc := 4) rfl rfl rfl (by decide +kernel)) (
  mA (i := 5) (ok_ald_n (f := 0) (pc := 5) rfl rfl rfl (by decide +kernel)) (
  mA (i := 6) (ok_gP (pc := 6) rfl (by decide +kernel) wd_11 inw_1 rfl rfl (by decide +kernel)) (
  mA (i := 7) (ok_len (pc := 9) (by decide +kernel) rfl rfl (by decide +kernel)) (
  mA (i := 8) (ok_cge (off := 35) (pc := 10) (tgt := 45) rfl rfl rfl (by decide +kernel) (by decide +kernel)) (
  mA (i := 9) (ok_ald_n (f := 0) (pc := 13) rfl rfl rfl (by decide +kernel)) (
  mA (i := 10) (ok_gP (pc := 14) rfl (by decide +kernel) wd_11 inw_1 rfl rfl (by decide +kernel)) (
  mA (i := 11) (ok_ild_n (f := 2) (pc := 17) rfl rfl rfl (by decide +kernel)) (
  mA (i := 12) (ok_iald (pc := 18) rfl rfl (by decide +kernel)) (
  mA (i := 13) (ok_callI (pc := 19) (can_SN cal_C_isVariable (by decide +kernel) wn_36 wd_34 wd_35 (by decide +kernel)) rfl rfl) (
  mA (i := 14) (ok_ifeq (off := 17) (pc := 22) (tgt := 39) rfl rfl rfl (by decide +kernel) (by decide +kernel)) (
  mA (i := 15) (ok_ild_n (f := 1) (pc := 25) rfl rfl rfl (by decide +kernel)) (
  mA (i := 16) (ok_ic (n := 1) (pc := 26) (by decide +kernel) rfl rfl (by decide +kernel)) (
  mA (i := 17) (ok_ald_n (f := 0) (pc := 27) rfl rfl rfl (by decide +kernel)) (
  mA (i := 18) (ok_gP (pc := 28) rfl (by decide +kernel) wd_11 inw_1 rfl rfl (by decide +kernel)) (
  mA (i := 19) (ok_ild_n (f := 2) (pc := 31) rfl rfl rfl (by decide +kernel)) (
  mA (i := 20) (ok_iald (pc := 32) rfl rfl (by decide +kernel)) (
  mA (i := 21) (ok_bi (n := 20) (pc := 33) (by decide +kernel) rfl rfl (by decide +kernel)) (
  mA (i := 22) (ok_sub (pc := 35) rfl rfl (by decide +kernel)) (
  mA (i := 23) (ok_shl (pc := 36) rfl rfl (by decide +kernel)) (
  mA (i := 24) (ok_or (pc := 37) rfl rfl (by decide +kernel)) (
  mA (i := 25) (ok_ist_n (f := 1) (pc := 38) rfl (by decide +kernel) rfl rfl rfl (by decide +kernel)) (
  mA (i := 26) (ok_inc (z := 1) (pc := 39) (by decide +kernel) (by decide +kernel) rfl rfl rfl (by decide +kernel)) (
  mA (i := 27) (ok_goto (off := (-38)) (pc := 42) (tgt := 4) rfl rfl (by decide +kernel) (by decide +kernel)) (
  mA (i := 28) (ok_ild_n (f := 1) (pc := 45) rfl rfl rfl (by decide +kernel)) (
  mA (i := 29) (ok_iret (pc := 46) rfl rfl (by decide +kernel)) (
  mZ))))))))))))))))))))))))))))))
set_option maxRecDepth 20000 in
theorem ok_Cl_measure : mAll (mOk RX0 cX0_measure 3 true false (some .int) (mnat p_Cl_measure)) 0 k_Cl_measure := mA (i := 0) (ok_ild_n (f := 1) (pc := 0) rfl rfl rfl (by decide +kernel)) (
  mA (i := 1) (ok_callI (pc := 1) (can_SN cal_C_isFeature (by decide +kernel) wn_38 wd_37 wd_35 (by decide +kernel)) rfl rfl) (
  mA (i := 2) (ok_ifeq (off := 17) (pc := 4) (tgt := 21) rfl rfl rfl (by decide +kernel) (by decide +kernel)) (
  mA (i := 3) (ok_ild_n (f := 1) (pc := 7) rfl rfl rfl (by decide +kernel)) (
  mA (i := 4) (ok_ald_n (f := 0) (pc := 8) rfl rfl rfl (by decide +kernel)) (
  mA (i := 5) (ok_gP (pc := 9) rfl (by decide +kernel) wd_3 inw_1 rfl rfl (by decide +kernel)) (
  mA (i := 6) (ok_ild_n (f := 1) (pc := 12) rfl rfl rfl (by decide +kernel)) (
  mA (i := 7) (ok_iald (pc := 13) rfl rfl (by decide +kernel)) (
  mA (i := 8) (ok_ild_n (f := 2) (pc := 14) rfl rfl rfl (by decide +kernel)) (
  mA (i := 9) (ok_callI (pc := 15) (can_SN cal_C_byMode (by decide +kernel) wn_40 wd_39 wd_35 (by decide +kernel)) rfl rfl) (
  mA (i := 10) (ok_goto (off := 4) (pc := 18) (tgt := 22) rfl rfl (by decide +kernel) (by decide +kernel)) (
  mA (i := 11) (ok_ic (n := 0) (pc := 21) (by decide +kernel) rfl rfl (by decide +kernel)) (
  mA (i := 12) (ok_iret (pc := 22) rfl rfl (by decide +kernel)) (
  mZ)))))))))))))
set_option maxRecDepth 20000 in
theorem ok_Cl_sameRun : mAll (mOk RX0 cX0_sameRun 5 true false (some .boolean) (mnat p_Cl_sameRun)) 0 k_Cl_sameRun := mA (i := 0) (ok_ild_n (f := 1) (pc := 0) rfl rfl rfl (by decide +kernel)) (
  mA (i := 1) (ok_iflt (off := 29) (pc := 1) (tgt := 30) rfl rfl rfl (by decide +kernel) (by decide +kernel)) (
  mA (i := 2) (ok_ild_n (f := 2) (pc := 4) rfl rfl rfl (by decide +kernel)) (
  mA (i := 3) (ok_iflt (off := 25) (pc := 5) (tgt := 30) rfl rfl rfl (by decide +kernel) (by decide +kernel)) (
  mA (i := 4) (ok_ild_n (f := 1) (pc := 8) rfl rfl rfl (by decide +kernel)) (
  mA (i := 5) (ok_ild_n (f := 3) (pc := 9) rfl rfl rfl (by decide +kernel)) (
  mA (i := 6) (ok_add (pc := 10) rfl rfl (by decide +kernel)) (
  mA (i := 7) (ok_ald_n (f := 0) (pc := 11) rfl rfl rfl (by decide +kernel)) (
  mA (i := 8) (ok_gP (pc := 12) rfl (by decide +kernel) wd_11 inw_1 rfl rfl (by decide +kernel)) (
  mA (i := 9) (ok_len (pc := 15) (by decide +kernel) rfl rfl (by decide +kernel)) (
  mA (i := 10) (ok_cgt (off := 14) (pc := 16) (tgt := 30) rfl rfl rfl (by decide +kernel) (by decide +kernel)) (
  mA (i := 11) (ok_ild_n (f := 2) (pc := 19) rfl rfl rfl (by decide +kernel)) (
  mA (i := 12) (ok_ild_n (f := 3) (pc := 20) rfl rfl rfl (by decide +kernel)) (
  mA (i := 13) (ok_add (pc := 21) rfl rfl (by decide +kernel)) (
  mA (i := 14) (ok_ald_n (f := 0) (pc := 22) rfl rfl rfl (by decide +kernel)) (
  mA (i := 15) (ok_gP (pc := 23) rfl (by decide +kernel) wd_11 inw_1 rfl rfl (by decide +kernel)) (
  mA (i := 16) (ok_len (pc := 26) (by decide +kernel) rfl rfl (by decide +kernel)) (
  mA (i := 17) (ok_cle (off := 5) (pc := 27) (tgt := 32) rfl rfl rfl (by decide +kernel) (by decide +kernel)) (
  mA (i := 18) (ok_ic (n := 0) (pc := 30) (by decide +kernel) rfl rfl (by decide +kernel)) (
  mA (i := 19) (ok_zret (pc := 31) rfl rfl (by decide +kernel)) (
  mA (i := 20) (ok_ic (n := 0) (pc := 32) (by decide +kernel) rfl rfl (by decide +kernel)) (
  mA (i := 21) (ok_ist (pc := 33) (by decide +kernel) rfl rfl rfl (by decide +kernel)) (
  mA (i := 22) (ok_ild (pc := 35) rfl rfl (by decide +kernel)) (
  mA (i := 23) (ok_ild_n (f := 3) (pc := 37) rfl rfl rfl (by decide +kernel)) (
  mA (i := 24) (ok_cge (off := 32) (pc := 38) (tgt := 70) rfl rfl rfl (by decide +kernel) (by decide +kernel)) (
  mA (i := 25) (ok_ald_n (f := 0) (pc := 41) rfl rfl rfl (by decide +kernel)) (
  mA (i := 26) (ok_gP (pc := 42) rfl (by decide +kernel) wd_11 inw_1 rfl rfl (by decide +kernel)) (
  mA (i := 27) (ok_ild_n (f := 1) (pc := 45) rfl rfl rfl (by decide +kernel)) (
  mA (i := 28) (ok_ild (pc := 46) rfl rfl (by decide +kernel)) (
  mA (i := 29) (ok_add (pc := 48) rfl rfl (by decide +kernel)) (
  mA (i := 30) (ok_iald (pc := 49) rfl rfl (by decide +kernel)) (
  mA (i := 31) (ok_ald_n (f := 0) (pc := 50) rfl rfl rfl (by decide +kernel)) (
  mA (i := 32) (ok_gP (pc := 51) rfl (by decide +kernel) wd_11 inw_1 rfl rfl (by decide +kernel)) (
  mA (i := 33) (ok_ild_n (f := 2) (pc := 54) rfl rfl rfl (by decide +kernel)) (
  mA (i := 34) (ok_ild (pc := 55) rfl rfl (by decide +kernel)) (
  mA (i := 35) (ok_add (pc := 57) rfl rfl (by decide +kernel)) (
  mA (i := 36) (ok_iald (pc := 58) rfl rfl (by decide +kernel)) (
  mA (i := 37) (ok_ceq (off := 5) (pc := 59) (tgt := 64) rfl rfl rfl (by decide +kernel) (by decide +kernel)) (
  mA (i := 38) (ok_ic (n := 0) (pc := 62) (by decide +kernel) rfl rfl (by decide +kernel)) (
  mA (i := 39) (ok_zret (pc := 63) rfl rfl (by decide +kernel)) (
  mA (i := 40) (ok_inc (z := 1) (pc := 64) (by decide +kernel) (by decide +kernel) rfl rfl rfl (by decide +kernel)) (
  mA (i := 41) (ok_goto (off := (-32)) (pc := 67) (tgt := 35) rfl rfl (by decide +kernel) (by decide +kernel)) (
  mA (i := 42) (ok_ic (n := 1) (pc := 70) (by decide +kernel) rfl rfl (by decide +kernel)) (
  mA (i := 43) (ok_zret (pc := 71) rfl rfl (by decide +kernel)) (
  mZ))))))))))))))))))))))))))))))))))))))))))))
set_option maxRecDepth 20000 in
theorem ok_Cl_opposite : mAll (mOk RX0 cX0_opposite 4 true false (some .boolean) (mnat p_Cl_opposite)) 0 k_Cl_opposite := mA (i := 0) (ok_ald_n (f := 0) (pc := 0) rfl rfl rfl (by decide +kernel)) (
  mA (i := 1) (ok_ild_n (f := 1) (pc := 1) rfl rfl rfl (by decide +kernel)) (
  mA (i := 2) (ok_ic (n := 1) (pc := 2) (by decide +kernel) rfl rfl (by decide +kernel)) (
  mA (i := 3) (ok_add (pc := 3) rfl rfl (by decide +kernel)) (
  mA (i := 4) (ok_callI (pc := 4) (can_V cal_Cl_start (by decide +kernel) rfl (by decide +kernel) rfl wd_41 wd_42 wd_43 wd_24 (by decide +kernel)) rfl rfl) (
  mA (i := 5) (ok_ald_n (f := 0) (pc := 7) rfl rfl rfl (by decide +kernel)) (
  mA (i := 6) (ok_ild_n (f := 1) (pc := 8) rfl rfl rfl (by decide +kernel)) (
  mA (i := 7) (ok_callI (pc := 9) (can_V cal_Cl_start (by decide +kernel) rfl (by decide +kernel) rfl wd_41 wd_42 wd_43 wd_24 (by decide +kernel)) rfl rfl) (
  mA (i := 8) (ok_sub (pc := 12) rfl rfl (by decide +kernel)) (
  mA (i := 9) (ok_ist_n (f := 3) (pc := 13) rfl (by decide +kernel) rfl rfl rfl (by decide +kernel)) (
  mA (i := 10) (ok_ald_n (f := 0) (pc := 14) rfl rfl rfl (by decide +kernel)) (
  mA (i := 11) (ok_ald_n (f := 0) (pc := 15) rfl rfl rfl (by decide +kernel)) (
  mA (i := 12) (ok_ild_n (f := 1) (pc := 16) rfl rfl rfl (by decide +kernel)) (
  mA (i := 13) (ok_callI (pc := 17) (can_V cal_Cl_start (by decide +kernel) rfl (by decide +kernel) rfl wd_41 wd_42 wd_43 wd_24 (by decide +kernel)) rfl rfl) (
  mA (i := 14) (ok_callI (pc := 20) (can_V cal_Cl_codeAt (by decide +kernel) rfl (by decide +kernel) rfl wd_44 wd_45 wd_46 wd_24 (by decide +kernel)) rfl rfl) (
  mA (i := 15) (ok_ald_n (f := 0) (pc := 23) rfl rfl rfl (by decide +kernel)) (
  mA (i := 16) (ok_ald_n (f := 0) (pc := 24) rfl rfl rfl (by decide +kernel)) (
  mA (i := 17) (ok_ild_n (f := 2) (pc := 25) rfl rfl rfl (by decide +kernel)) (
  mA (i := 18) (ok_callI (pc := 26) (can_V cal_Cl_start (by decide +kernel) rfl (by decide +kernel) rfl wd_41 wd_42 wd_43 wd_24 (by decide +kernel)) rfl rfl) (
  mA (i := 19) (ok_callI (pc := 29) (can_V cal_Cl_codeAt (by decide +kernel) rfl (by decide +kernel) rfl wd_44 wd_45 wd_46 wd_24 (by decide +kernel)) rfl rfl) (
  mA (i := 20) (ok_xor (pc := 32) rfl rfl (by decide +kernel)) (
  mA (i := 21) (ok_ic (n := 1) (pc := 33) (by decide +kernel) rfl rfl (by decide +kernel)) (
  mA (i := 22) (ok_cne (off := 48) (pc := 34) (tgt := 82) rfl rfl rfl (by decide +kernel) (by decide +kernel)) (
  mA (i := 23) (ok_ild_n (f := 3) (pc := 37) rfl rfl rfl (by decide +kernel)) (
  mA (i := 24) (ok_ald_n (f := 0) (pc := 38) rfl rfl rfl (by decide +kernel)) (
  mA (i := 25) (ok_ild_n (f := 2) (pc := 39) rfl rfl rfl (by decide +kernel)) (
  mA (i := 26) (ok_ic (n := 1) (pc := 40) (by decide +kernel) rfl rfl (by decide +kernel)) (
  mA (i := 27) (ok_add (pc := 41) rfl rfl (by decide +kernel)) (
  mA (i := 28) (ok_callI (pc := 42) (can_V cal_Cl_start (by decide +kernel) rfl (by decide +kernel) rfl wd_41 wd_42 wd_43 wd_24 (by decide +kernel)) rfl rfl) (
  mA (i := 29) (ok_ald_n (f := 0) (pc := 45) rfl rfl rfl (by decide +kernel)) (
  mA (i := 30) (ok_ild_n (f := 2) (pc := 46) rfl rfl rfl (by decide +kernel)) (
  mA (i := 31) (ok_callI (pc := 47) (can_V cal_Cl_start (by decide +kernel) rfl (by decide +kernel) rfl wd_41 wd_42 wd_43 wd_24 (by decide +kernel)) rfl rfl) (
  mA (i := 32) (ok_sub (pc := 50) rfl rfl (by decide +kernel)) (
  mA (i := 33) (ok_cne (off := 31) (pc := 51) (tgt := 82) rfl rfl rfl (by decide +kernel) (by decide +kernel)) (
  mA (i := 34) (ok_ald_n (f := 0) (pc := 54) rfl rfl rfl (by decide +kernel)) (
  mA (i := 35) (ok_ald_n (f := 0) (pc := 55) rfl rfl rfl (by decide +kernel)) (
  mA (i := 36) (ok_ild_n (f := 1) (pc := 56) rfl rfl rfl (by decide +kernel)) (
  mA (i := 37) (ok_callI (pc := 57) (can_V cal_Cl_start (by decide +kernel) rfl (by decide +kernel) rfl wd_41 wd_42 wd_43 wd_24 (by decide +kernel)) rfl rfl) (
  mA (i := 38) (ok_ic (n := 1) (pc := 60) (by decide +kernel) rfl rfl (by decide +kernel)) (
  mA (i := 39) (ok_add (pc := 61) rfl rfl (by decide +kernel)) (
  mA (i := 40) (ok_ald_n (f := 0) (pc := 62) rfl rfl rfl (by decide +kernel)) (
  mA (i := 41) (ok_ild_n (f := 2) (pc := 63) rfl rfl rfl (by decide +kernel)) (
  mA (i := 42) (ok_callI (pc := 64) (can_V cal_Cl_start (by decide +kernel) rfl (by decide +kernel) rfl wd_41 wd_42 wd_43 wd_24 (by decide +kernel)) rfl rfl) (
  mA (i := 43) (ok_ic (n := 1) (pc := 67) (by decide +kernel) rfl rfl (by decide +kernel)) (
  mA (i := 44) (ok_add (pc := 68) rfl rfl (by decide +kernel)) (
  mA (i := 45) (ok_ild_n (f := 3) (pc := 69) rfl rfl rfl (by decide +kernel)) (
  mA (i := 46) (ok_ic (n := 1) (pc := 70) (by decide +kernel) rfl rfl (by decide +kernel)) (
  mA (i := 47) (ok_sub (pc := 71) rfl rfl (by decide +kernel)) (
  mA (i := 48) (ok_callI (pc := 72) (can_V cal_Cl_sameRun (by decide +kernel) rfl (by decide +kernel) rfl wd_47 wd_48 wd_49 wd_24 (by decide +kernel)) rfl rfl) (
  mA (i := 49) (ok_ifeq (off := 7) (pc := 75) (tgt := 82) rfl rfl rfl (by decide +kernel) (by decide +kernel)) (
  mA (i := 50) (ok_ic (n := 1) (pc := 78) (by decide +kernel) rfl rfl (by decide +kernel)) (
  mA (i := 51) (ok_goto (off := 4) (pc := 79) (tgt := 83) rfl rfl (by decide +kernel) (by decide +kernel)) (
  mA (i := 52) (ok_ic (n := 0) (pc := 82) (by decide +kernel) rfl rfl (by decide +kernel)) (
  mA (i := 53) (ok_zret (pc := 83) rfl rfl (by decide +kernel)) (
  mZ))))))))))))))))))))))))))))))))))))))))))))))))))))))
set_option maxRecDepth 20000 in
theorem ok_Dr_init : mAll (mOk RX1 cX1_init 1 true true none (mnat p_Dr_init)) 0 k_Dr_init := mA (i := 0) (ok_ald_n (f := 0) (pc := 0) rfl rfl rfl (by decide +kernel)) (
  mA (i := 1) (ok_obj (pc := 1) wd_50 wd_1 wd_objc rfl rfl (by decide +kernel)) (
  mA (i := 2) (ok_ald_n (f := 0) (pc := 4) rfl rfl rfl (by decide +kernel)) (
  mA (i := 3) (ok_bi (n := 30) (pc := 5) (by decide +kernel) rfl rfl (by decide +kernel)) (
  mA (i := 4) (ok_newi (pc := 7) wd_2 rfl rfl (by decide +kernel)) (
  mA (i := 5) (ok_pPF (pc := 9) rfl (by decide +kernel) wd_51 inw_2 tyX1_ok nmX1 rfl rfl rfl (tyX1_ok 0 (by decide +kernel)) rfl rfl rfl (by decide +kernel)) (
  mA (i := 6) (ok_ald_n (f := 0) (pc := 12) rfl rfl rfl (by decide +kernel)) (
  mA (i := 7) (ok_bi (n := 30) (pc := 13) (by decide +kernel) rfl rfl (by decide +kernel)) (
  mA (i := 8) (ok_newi (pc := 15) wd_2 rfl rfl (by decide +kernel)) (
  mA (i := 9) (ok_pPF (pc := 17) rfl (by decide +kernel) wd_52 inw_2 tyX1_ok nmX1 rfl rfl rfl (tyX1_ok 1 (by decide +kernel)) rfl rfl rfl (by decide +kernel)) (
  mA (i := 10) (ok_vret (pc := 20) rfl rfl (by decide +kernel)) (
  mZ)))))))))))
set_option maxRecDepth 20000 in
theorem ok_Dr_size : mAll (mOk RX1 cX1_size 1 true false (some .int) (mnat p_Dr_size)) 0 k_Dr_size := mA (i := 0) (ok_ald_n (f := 0) (pc := 0) rfl rfl rfl (by decide +kernel)) (
  mA (i := 1) (ok_gI (pc := 1) rfl (by decide +kernel) wd_53 inw_2 rfl rfl (by decide +kernel)) (
  mA (i := 2) (ok_iret (pc := 4) rfl rfl (by decide +kernel)) (
  mZ)))
set_option maxRecDepth 20000 in
theorem ok_Dr_empty : mAll (mOk RX1 cX1_empty 1 true false none (mnat p_Dr_empty)) 0 k_Dr_empty := mA (i := 0) (ok_ald_n (f := 0) (pc := 0) rfl rfl rfl (by decide +kernel)) (
  mA (i := 1) (ok_ic (n := 0) (pc := 1) (by decide +kernel) rfl rfl (by decide +kernel)) (
  mA (i := 2) (ok_pI (pc := 2) rfl (by decide +kernel) wd_53 inw_2 tyX1_ok nmX1 rfl (by decide +kernel) rfl rfl (by decide +kernel)) (
  mA (i := 3) (ok_vret (pc := 5) rfl rfl (by decide +kernel)) (
  mZ))))
set_option maxRecDepth 20000 in
theorem ok_Dr_codeAt : mAll (mOk RX1 cX1_codeAt 2 true false (some .int) (mnat p_Dr_codeAt)) 0 k_Dr_codeAt := mA (i := 0) (ok_ild_n (f := 1) (pc := 0) rfl rfl rfl (by decide +kernel)) (
  mA (i := 1) (ok_iflt (off := 20) (pc := 1) (tgt := 21) rfl rfl rfl (by decide +kernel) (by decide +kernel)) (
  mA (i := 2) (ok_ild_n (f := 1) (pc := 4) rfl rfl rfl (by decide +kernel)) (
  mA (i := 3) (ok_ald_n (f := 0) (pc := 5) rfl rfl rfl (by decide +kernel)) (
  mA (i := 4) (ok_gI (pc := 6) rfl (by decide +kernel) wd_53 inw_2 rfl rfl (by decide +kernel)) (
  mA (i := 5) (ok_cge (off := 12) (pc := 9) (tgt := 21) rfl rfl rfl (by decide +kernel) (by decide +kernel)) (
  mA (i := 6) (ok_ald_n (f := 0) (pc := 12) rfl rfl rfl (by decide +kernel)) (
  mA (i := 7) (ok_gP (pc := 13) rfl (by decide +kernel) wd_51 inw_2 rfl rfl (by decide +kernel)) (
  mA (i := 8) (ok_ild_n (f := 1) (pc := 16) rfl rfl rfl (by decide +kernel)) (
  mA (i := 9) (ok_iald (pc := 17) rfl rfl (by decide +kernel)) (
  mA (i := 10) (ok_goto (off := 4) (pc := 18) (tgt := 22) rfl rfl (by decide +kernel) (by decide +kernel)) (
  mA (i := 11) (ok_ic (n := (-1)) (pc := 21) (by decide +kernel) rfl rfl (by decide +kernel)) (
  mA (i := 12) (ok_iret (pc := 22) rfl rfl (by decide +kernel)) (
  mZ)))))))))))))
set_option maxRecDepth 20000 in
theorem ok_Dr_depthAt : mAll (mOk RX1 cX1_depthAt 2 true false (some .int) (mnat p_Dr_depthAt)) 0 k_Dr_depthAt := mA (i := 0) (ok_ild_n (f := 1) (pc := 0) rfl rfl rfl (by decide +kernel)) (
  mA (i := 1) (ok_iflt (off := 20) (pc := 1) (tgt := 21) rfl rfl rfl (by decide +kernel) (by decide +kernel)) (
  mA (i := 2) (ok_ild_n (f := 1) (pc := 4) rfl rfl rfl (by decide +kernel)) (
  mA (i := 3) (ok_ald_n (f := 0) (pc := 5) rfl rfl rfl (by decide +kernel)) (
  mA (i := 4) (ok_gI (pc := 6) rfl (by decide +kernel) wd_53 inw_2 rfl rfl (by decide +kernel)) (
  mA (i := 5) (ok_cge (off := 12) (pc := 9) (tgt := 21) rfl rfl rfl (by decide +kernel) (by decide +kernel)) (
  mA (i := 6) (ok_ald_n (f := 0) (pc := 12) rfl rfl rfl (by decide +kernel)) (
  mA (i := 7) (ok_gP (pc := 13) rfl (by decide +kernel) wd_52 inw_2 rfl rfl (by decide +kernel)) (
  mA (i := 8) (ok_ild_n (f := 1) (pc := 16) rfl rfl rfl (by decide +kernel)) (
  mA (i := 9) (ok_iald (pc := 17) rfl rfl (by decide +kernel)) (
  mA (i := 10) (ok_goto (off := 4) (pc := 18) (tgt := 22) rfl rfl (by decide +kernel) (by decide +kernel)) (
  mA (i := 11) (ok_ic (n := 0) (pc := 21) (by decide +kernel) rfl rfl (by decide +kernel)) (
  mA (i := 12) (ok_iret (pc := 22) rfl rfl (by decide +kernel)) (
  mZ)))))))))))))
set_option maxRecDepth 20000 in
theorem ok_Dr_isFull : mAll (mOk RX1 cX1_isFull 1 true false (some .boolean) (mnat p_Dr_isFull)) 0 k_Dr_isFull := mA (i := 0) (ok_ald_n (f := 0) (pc := 0) rfl rfl rfl (by decide +kernel)) (
  mA (i := 1) (ok_gI (pc := 1) rfl (by decide +kernel) wd_53 inw_2 rfl rfl (by decide +kernel)) (
  mA (i := 2) (ok_bi (n := 30) (pc := 4) (by decide +kernel) rfl rfl (by decide +kernel)) (
  mA (i := 3) (ok_clt (off := 7) (pc := 6) (tgt := 13) rfl rfl rfl (by decide +kernel) (by decide +kernel)) (
  mA (i := 4) (ok_ic (n := 1) (pc := 9) (by decide +kernel) rfl rfl (by decide +kernel)) (
  mA (i := 5) (ok_goto (off := 4) (pc := 10) (tgt := 14) rfl rfl (by decide +kernel) (by decide +kernel)) (
  mA (i := 6) (ok_ic (n := 0) (pc := 13) (by decide +kernel) rfl rfl (by decide +kernel)) (
  mA (i := 7) (ok_zret (pc := 14) rfl rfl (by decide +kernel)) (
  mZ))))))))
set_option maxRecDepth 20000 in
theorem ok_Dr_push : mAll (mOk RX1 cX1_push 3 true false (some .boolean) (mnat p_Dr_push)) 0 k_Dr_push := mA (i := 0) (ok_ald_n (f := 0) (pc := 0) rfl rfl rfl (by decide +kernel)) (
  mA (i := 1) (ok_gI (pc := 1) rfl (by decide +kernel) wd_53 inw_2 rfl rfl (by decide +kernel)) (
  mA (i := 2) (ok_iflt (off := 17) (pc := 4) (tgt := 21) rfl rfl rfl (by decide +kernel) (by decide +kernel)) (
  mA (i := 3) (ok_ald_n (f := 0) (pc := 7) rfl rfl rfl (by decide +kernel)) (
  mA (i := 4) (ok_gI (pc := 8) rfl (by decide +kernel) wd_53 inw_2 rfl rfl (by decide +kernel)) (
  mA (i := 5) (ok_bi (n := 30) (pc := 11) (by decide +kernel) rfl rfl (by decide +kernel)) (
  mA (i := 6) (ok_cge (off := 8) (pc := 13) (tgt := 21) rfl rfl rfl (by decide +kernel) (by decide +kernel)) (
  mA (i := 7) (ok_ild_n (f := 2) (pc := 16) rfl rfl rfl (by decide +kernel)) (
  mA (i := 8) (ok_ic (n := 5) (pc := 17) (by decide +kernel) rfl rfl (by decide +kernel)) (
  mA (i := 9) (ok_cle (off := 5) (pc := 18) (tgt := 23) rfl rfl rfl (by decide +kernel) (by decide +kernel)) (
  mA (i := 10) (ok_ic (n := 0) (pc := 21) (by decide +kernel) rfl rfl (by decide +kernel)) (
  mA (i := 11) (ok_zret (pc := 22) rfl rfl (by decide +kernel)) (
  mA (i := 12) (ok_ald_n (f := 0) (pc := 23) rfl rfl rfl (by decide +kernel)) (
  mA (i := 13) (ok_gP (pc := 24) rfl (by decide +kernel) wd_51 inw_2 rfl rfl (by decide +kernel)) (
  mA (i := 14) (ok_ald_n (f := 0) (pc := 27) rfl rfl rfl (by decide +kernel)) (
  mA (i := 15) (ok_gI (pc := 28) rfl (by decide +kernel) wd_53 inw_2 rfl rfl (by decide +kernel)) (
  mA (i := 16) (ok_ild_n (f := 1) (pc := 31) rfl rfl rfl (by decide +kernel)) (
  mA (i := 17) (ok_iast (pc := 32) rfl rfl (by decide +kernel)) (
  mA (i := 18) (ok_ald_n (f := 0) (pc := 33) rfl rfl rfl (by decide +kernel)) (
  mA (i := 19) (ok_gP (pc := 34) rfl (by decide +kernel) wd_52 inw_2 rfl rfl (by decide +kernel)) (
  mA (i := 20) (ok_ald_n (f := 0) (pc := 37) rfl rfl rfl (by decide +kernel)) (
  mA (i := 21) (ok_gI (pc := 38) rfl (by decide +kernel) wd_53 inw_2 rfl rfl (by decide +kernel)) (
  mA (i := 22) (ok_ild_n (f := 2) (pc := 41) rfl rfl rfl (by decide +kernel)) (
  mA (i := 23) (ok_iast (pc := 42) rfl rfl (by decide +kernel)) (
  mA (i := 24) (ok_ald_n (f := 0) (pc := 43) rfl rfl rfl (by decide +kernel)) (
  mA (i := 25) (ok_dup (pc := 44) rfl rfl (by decide +kernel)) (
  mA (i := 26) (ok_gI (pc := 45) rfl (by decide +kernel) wd_53 inw_2 rfl rfl (by decide +kernel)) (
  mA (i := 27) (ok_ic (n := 1) (pc := 48) (by decide +kernel) rfl rfl (by decide +kernel)) (
  mA (i := 28) (ok_add (pc := 49) rfl rfl (by decide +kernel)) (
  mA (i := 29) (ok_pI (pc := 50) rfl (by decide +kernel) wd_53 inw_2 tyX1_ok nmX1 rfl (by decide +kernel) rfl rfl (by decide +kernel)) (
  mA (i := 30) (ok_ic (n := 1) (pc := 53) (by decide +kernel) rfl rfl (by decide +kernel)) (
  mA (i := 31) (ok_zret (pc := 54) rfl rfl (by decide +kernel)) (
  mZ))))))))))))))))))))))))))))))))
set_option maxRecDepth 20000 in
theorem ok_Dr_load : mAll (mOk RX1 cX1_load 3 true false none (mnat p_Dr_load)) 0 k_Dr_load := mA (i := 0) (ok_ald_n (f := 0) (pc := 0) rfl rfl rfl (by decide +kernel)) (
  mA (i := 1) (ok_callV (pc := 1) (can_V cal_Dr_empty (by decide +kernel) rfl (by decide +kernel) rfl wd_54 wd_55 wd_56 wd_7 (by decide +kernel)) rfl rfl) (
  mA (i := 2) (ok_ic (n := 0) (pc := 4) (by decide +kernel) rfl rfl (by decide +kernel)) (
  mA (i := 3) (ok_ist_n (f := 2) (pc := 5) rfl (by decide +kernel) rfl rfl rfl (by decide +kernel)) (
  mA (i := 4) (ok_ild_n (f := 2) (pc := 6) rfl rfl rfl (by decide +kernel)) (
  mA (i := 5) (ok_ald_n (f := 1) (pc := 7) rfl rfl rfl (by decide +kernel)) (
  mA (i := 6) (ok_callI (pc := 8) (can_V cal_Cl_symbols (by decide +kernel) rfl (by decide +kernel) rfl wd_57 wd_58 wd_59 wd_24 (by decide +kernel)) rfl rfl) (
  mA (i := 7) (ok_cge (off := 24) (pc := 11) (tgt := 35) rfl rfl rfl (by decide +kernel) (by decide +kernel)) (
  mA (i := 8) (ok_ald_n (f := 0) (pc := 14) rfl rfl rfl (by decide +kernel)) (
  mA (i := 9) (ok_ald_n (f := 1) (pc := 15) rfl rfl rfl (by decide +kernel)) (
  mA (i := 10) (ok_ild_n (f := 2) (pc := 16) rfl rfl rfl (by decide +kernel)) (
  mA (i := 11) (ok_callI (pc := 17) (can_V cal_Cl_codeAt (by decide +kernel) rfl (by decide +kernel) rfl wd_60 wd_45 wd_46 wd_24 (by decide +kernel)) rfl rfl) (
  mA (i := 12) (ok_ald_n (f := 1) (pc := 20) rfl rfl rfl (by decide +kernel)) (
  mA (i := 13) (ok_ild_n (f := 2) (pc := 21) rfl rfl rfl (by decide +kernel)) (
  mA (i := 14) (ok_callI (pc := 22) (can_V cal_Cl_depthAt (by decide +kernel) rfl (by decide +kernel) rfl wd_61 wd_62 wd_63 wd_24 (by decide +kernel)) rfl rfl) (
  mA (i := 15) (ok_callI (pc := 25) (can_V cal_Dr_push (by decide +kernel) rfl (by decide +kernel) rfl wd_64 wd_65 wd_66 wd_7 (by decide +kernel)) rfl rfl) (
  mA (i := 16) (ok_pop (pc := 28) rfl rfl (by decide +kernel)) (
  mA (i := 17) (ok_inc (z := 1) (pc := 29) (by decide +kernel) (by decide +kernel) rfl rfl rfl (by decide +kernel)) (
  mA (i := 18) (ok_goto (off := (-26)) (pc := 32) (tgt := 6) rfl rfl (by decide +kernel) (by decide +kernel)) (
  mA (i := 19) (ok_vret (pc := 35) rfl rfl (by decide +kernel)) (
  mZ))))))))))))))))))))
set_option maxRecDepth 20000 in
theorem ok_Dr_loadWithout : mAll (mOk RX1 cX1_loadWithout 5 true false none (mnat p_Dr_loadWithout)) 0 k_Dr_loadWithout := mA (i := 0) (ok_ald_n (f := 0) (pc := 0) rfl rfl rfl (by decide +kernel)) (
  mA (i := 1) (ok_callV (pc := 1) (can_V cal_Dr_empty (by decide +kernel) rfl (by decide +kernel) rfl wd_54 wd_55 wd_56 wd_7 (by decide +kernel)) rfl rfl) (
  mA (i := 2) (ok_ic (n := 0) (pc := 4) (by decide +kernel) rfl rfl (by decide +kernel)) (
  mA (i := 3) (ok_ist (pc := 5) (by decide +kernel) rfl rfl rfl (by decide +kernel)) (
  mA (i := 4) (ok_ild (pc := 7) rfl rfl (by decide +kernel)) (
  mA (i := 5) (ok_ald_n (f := 1) (pc := 9) rfl rfl rfl (by decide +kernel)) (
  mA (i := 6) (ok_callI (pc := 10) (can_V cal_Dr_size (by decide +kernel) rfl (by decide +kernel) rfl wd_67 wd_5 wd_6 wd_7 (by decide +kernel)) rfl rfl) (
  mA (i := 7) (ok_cge (off := 38) (pc := 13) (tgt := 51) rfl rfl rfl (by decide +kernel) (by decide +kernel)) (
  mA (i := 8) (ok_ild (pc := 16) rfl rfl (by decide +kernel)) (
  mA (i := 9) (ok_ild_n (f := 2) (pc := 18) rfl rfl rfl (by decide +kernel)) (
  mA (i := 10) (ok_clt (off := 9) (pc := 19) (tgt := 28) rfl rfl rfl (by decide +kernel) (by decide +kernel)) (
  mA (i := 11) (ok_ild (pc := 22) rfl rfl (by decide +kernel)) (
  mA (i := 12) (ok_ild_n (f := 3) (pc := 24) rfl rfl rfl (by decide +kernel)) (
  mA (i := 13) (ok_clt (off := 20) (pc := 25) (tgt := 45) rfl rfl rfl (by decide +kernel) (by decide +kernel)) (
  mA (i := 14) (ok_ald_n (f := 0) (pc := 28) rfl rfl rfl (by decide +kernel)) (
  mA (i := 15) (ok_ald_n (f := 1) (pc := 29) rfl rfl rfl (by decide +kernel)) (
  mA (i := 16) (ok_ild (pc := 30) rfl rfl (by decide +kernel)) (
  mA (i := 17) (ok_callI (pc := 32) (can_V cal_Dr_codeAt (by decide +kernel) rfl (by decide +kernel) rfl wd_68 wd_15 wd_16 wd_7 (by decide +kernel)) rfl rfl) (
  mA (i := 18) (ok_ald_n (f := 1) (pc := 35) rfl rfl rfl (by decide +kernel)) (
  mA (i := 19) (ok_ild (pc := 36) rfl rfl (by decide +kernel)) (
  mA (i := 20) (ok_callI (pc := 38) (can_V cal_Dr_depthAt (by decide +kernel) rfl (by decide +kernel) rfl wd_69 wd_18 wd_19 wd_7 (by decide +kernel)) rfl rfl) (
  mA (i := 21) (ok_callI (pc := 41) (can_V cal_Dr_push (by decide +kernel) rfl (by decide +kernel) rfl wd_64 wd_65 wd_66 wd_7 (by decide +kernel)) rfl rfl) (
  mA (i := 22) (ok_pop (pc := 44) rfl rfl (by decide +kernel)) (
  mA (i := 23) (ok_inc (z := 1) (pc := 45) (by decide +kernel) (by decide +kernel) rfl rfl rfl (by decide +kernel)) (
  mA (i := 24) (ok_goto (off := (-41)) (pc := 48) (tgt := 7) rfl rfl (by decide +kernel) (by decide +kernel)) (
  mA (i := 25) (ok_vret (pc := 51) rfl rfl (by decide +kernel)) (
  mZ))))))))))))))))))))))))))
set_option maxRecDepth 20000 in
theorem ok_Dr_loadPut : mAll (mOk RX1 cX1_loadPut 8 true false (some .boolean) (mnat p_Dr_loadPut)) 0 k_Dr_loadPut := mA (i := 0) (ok_ald_n (f := 0) (pc := 0) rfl rfl rfl (by decide +kernel)) (
  mA (i := 1) (ok_callV (pc := 1) (can_V cal_Dr_empty (by decide +kernel) rfl (by decide +kernel) rfl wd_54 wd_55 wd_56 wd_7 (by decide +kernel)) rfl rfl) (
  mA (i := 2) (ok_ic (n := 1) (pc := 4) (by decide +kernel) rfl rfl (by decide +kernel)) (
  mA (i := 3) (ok_ist (pc := 5) (by decide +kernel) rfl rfl rfl (by decide +kernel)) (
  mA (i := 4) (ok_ic (n := 0) (pc := 7) (by decide +kernel) rfl rfl (by decide +kernel)) (
  mA (i := 5) (ok_ist (pc := 8) (by decide +kernel) rfl rfl rfl (by decide +kernel)) (
  mA (i := 6) (ok_ild (pc := 10) rfl rfl (by decide +kernel)) (
  mA (i := 7) (ok_ald_n (f := 1) (pc := 12) rfl rfl rfl (by decide +kernel)) (
  mA (i := 8) (ok_callI (pc := 13) (can_V cal_Dr_size (by decide +kernel) rfl (by decide +kernel) rfl wd_67 wd_5 wd_6 wd_7 (by decide +kernel)) rfl rfl) (
  mA (i := 9) (ok_cge (off := 62) (pc := 16) (tgt := 78) rfl rfl rfl (by decide +kernel) (by decide +kernel)) (
  mA (i := 10) (ok_ild (pc := 19) rfl rfl (by decide +kernel)) (
  mA (i := 11) (ok_ifeq (off := 57) (pc := 21) (tgt := 78) rfl rfl rfl (by decide +kernel) (by decide +kernel)) (
  mA (i := 12) (ok_ald_n (f := 1) (pc := 24) rfl rfl rfl (by decide +kernel)) (
  mA (i := 13) (ok_ild (pc := 25) rfl rfl (by decide +kernel)) (
  mA (i := 14) (ok_callI (pc := 27) (can_V cal_Dr_codeAt (by decide +kernel) rfl (by decide +kernel) rfl wd_68 wd_15 wd_16 wd_7 (by decide +kernel)) rfl rfl) (
  mA (i := 15) (ok_ild_n (f := 2) (pc := 30) rfl rfl rfl (by decide +kernel)) (
  mA (i := 16) (ok_cne (off := 23) (pc := 31) (tgt := 54) rfl rfl rfl (by decide +kernel) (by decide +kernel)) (
  mA (i := 17) (ok_ald_n (f := 0) (pc := 34) rfl rfl rfl (by decide +kernel)) (
  mA (i := 18) (ok_ald_n (f := 3) (pc := 35) rfl rfl rfl (by decide +kernel)) (
  mA (i := 19) (ok_ild (pc := 36) rfl rfl (by decide +kernel)) (
  mA (i := 20) (ok_ild (pc := 38) rfl rfl (by decide +kernel)) (
  mA (i := 21) (ok_ald_n (f := 1) (pc := 40) rfl rfl rfl (by decide +kernel)) (
  mA (i := 22) (ok_ild (pc := 41) rfl rfl (by decide +kernel)) (
  mA (i := 23) (ok_callI (pc := 43) (can_V cal_Dr_depthAt (by decide +kernel) rfl (by decide +kernel) rfl wd_69 wd_18 wd_19 wd_7 (by decide +kernel)) rfl rfl) (
  mA (i := 24) (ok_callI (pc := 46) (can_V cal_Dr_pushTerm (by decide +kernel) rfl (by decide +kernel) rfl wd_70 wd_71 wd_72 wd_7 (by decide +kernel)) rfl rfl) (
  mA (i := 25) (ok_ist (pc := 49) (by decide +kernel) rfl rfl rfl (by decide +kernel)) (
  mA (i := 26) (ok_goto (off := 21) (pc := 51) (tgt := 72) rfl rfl (by decide +kernel) (by decide +kernel)) (
  mA (i := 27) (ok_ald_n (f := 0) (pc := 54) rfl rfl rfl (by decide +kernel)) (
  mA (i := 28) (ok_ald_n (f := 1) (pc := 55) rfl rfl rfl (by decide +kernel)) (
  mA (i := 29) (ok_ild (pc := 56) rfl rfl (by decide +kernel)) (
  mA (i := 30) (ok_callI (pc := 58) (can_V cal_Dr_codeAt (by decide +kernel) rfl (by decide +kernel) rfl wd_68 wd_15 wd_16 wd_7 (by decide +kernel)) rfl rfl) (
  mA (i := 31) (ok_ald_n (f := 1) (pc := 61) rfl rfl rfl (by decide +kernel)) (
  mA (i := 32) (ok_ild (pc := 62) rfl rfl (by decide +kernel)) (
  mA (i := 33) (ok_callI (pc := 64) (can_V cal_Dr_depthAt (by decide +kernel) rfl (by decide +kernel) rfl wd_69 wd_18 wd_19 wd_7 (by decide +kernel)) rfl rfl) (
  mA (i := 34) (ok_callI (pc := 67) (can_V cal_Dr_push (by decide +kernel) rfl (by decide +kernel) rfl wd_64 wd_65 wd_66 wd_7 (by decide +kernel)) rfl rfl) (
  mA (i := 35) (ok_ist (pc := 70) (by decide +kernel) rfl rfl rfl (by decide +kernel)) (
  mA (i := 36) (ok_inc (z := 1) (pc := 72) (by decide +kernel) (by decide +kernel) rfl rfl rfl (by decide +kernel)) (
  mA (i := 37) (ok_goto (off := (-65)) (pc := 75) (tgt := 10) rfl rfl (by decide +kernel) (by decide +kernel)) (
  mA (i := 38) (ok_ild (pc := 78) rfl rfl (by decide +kernel)) (
  mA (i := 39) (ok_zret (pc := 80) rfl rfl (by decide +kernel)) (
  mZ))))))))))))))))))))))))))))))))))))))))
set_option maxRecDepth 20000 in
theorem ok_Dr_pushTerm : mAll (mOk RX1 cX1_pushTerm 8 true false (some .boolean) (mnat p_Dr_pushTerm)) 0 k_Dr_pushTerm := mA (i := 0) (ok_ild (pc := 0) rfl rfl (by decide +kernel)) (
  mA (i := 1) (ok_ald_n (f := 1) (pc := 2) rfl rfl rfl (by decide +kernel)) (
  mA (i := 2) (ok_ild_n (f := 2) (pc := 3) rfl rfl rfl (by decide +kernel)) (
  mA (i := 3) (ok_callI (pc := 4) (can_V cal_Dr_depthAt (by decide +kernel) rfl (by decide +kernel) rfl wd_69 wd_18 wd_19 wd_7 (by decide +kernel)) rfl rfl) (
  mA (i := 4) (ok_sub (pc := 7) rfl rfl (by decide +kernel)) (
  mA (i := 5) (ok_ist (pc := 8) (by decide +kernel) rfl rfl rfl (by decide +kernel)) (
  mA (i := 6) (ok_ic (n := 1) (pc := 10) (by decide +kernel) rfl rfl (by decide +kernel)) (
  mA (i := 7) (ok_ist (pc := 11) (by decide +kernel) rfl rfl rfl (by decide +kernel)) (
  mA (i := 8) (ok_ild_n (f := 2) (pc := 13) rfl rfl rfl (by decide +kernel)) (
  mA (i := 9) (ok_ist (pc := 14) (by decide +kernel) rfl rfl rfl (by decide +kernel)) (
  mA (i := 10) (ok_ild (pc := 16) rfl rfl (by decide +kernel)) (
  mA (i := 11) (ok_ild_n (f := 3) (pc := 18) rfl rfl rfl (by decide +kernel)) (
  mA (i := 12) (ok_cge (off := 35) (pc := 19) (tgt := 54) rfl rfl rfl (by decide +kernel) (by decide +kernel)) (
  mA (i := 13) (ok_ild (pc := 22) rfl rfl (by decide +kernel)) (
  mA (i := 14) (ok_ifeq (off := 30) (pc := 24) (tgt := 54) rfl rfl rfl (by decide +kernel) (by decide +kernel)) (
  mA (i := 15) (ok_ald_n (f := 0) (pc := 27) rfl rfl rfl (by decide +kernel)) (
  mA (i := 16) (ok_ald_n (f := 1) (pc := 28) rfl rfl rfl (by decide +kernel)) (
  mA (i := 17) (ok_ild (pc := 29) rfl rfl (by decide +kernel)) (
  mA (i := 18) (ok_callI (pc := 31) (can_V cal_Dr_codeAt (by decide +kernel) rfl (by decide +kernel) rfl wd_68 wd_15 wd_16 wd_7 (by decide +kernel)) rfl rfl) (
  mA (i := 19) (ok_ald_n (f := 1) (pc := 34) rfl rfl rfl (by decide +kernel)) (
  mA (i := 20) (ok_ild (pc := 35) rfl rfl (by decide +kernel)) (
  mA (i := 21) (ok_callI (pc := 37) (can_V cal_Dr_depthAt (by decide +kernel) rfl (by decide +kernel) rfl wd_69 wd_18 wd_19 wd_7 (by decide +kernel)) rfl rfl) (
  mA (i := 22) (ok_ild (pc := 40) rfl rfl (by decide +kernel)) (
  mA (i := 23) (ok_add (pc := 42) rfl rfl (by decide +kernel)) (
  mA (i := 24) (ok_callI (pc := 43) (can_V cal_Dr_push (by decide +kernel) rfl (by decide +kernel) rfl wd_64 wd_65 wd_66 wd_7 (by decide +kernel)) rfl rfl) (
  mA (i := 25) (ok_ist (pc := 46) (by decide +kernel) rfl rfl rfl (by decide +kernel)) (
  mA (i := 26) (ok_inc (z := 1) (pc := 48) (by decide +kernel) (by decide +kernel) rfl rfl rfl (by decide +kernel)) (
  mA (i := 27) (ok_goto (off := (-35)) (pc := 51) (tgt := 16) rfl rfl (by decide +kernel) (by decide +kernel)) (
  mA (i := 28) (ok_ild (pc := 54) rfl rfl (by decide +kernel)) (
  mA (i := 29) (ok_zret (pc := 56) rfl rfl (by decide +kernel)) (
  mZ))))))))))))))))))))))))))))))
set_option maxRecDepth 20000 in
theorem ok_Dr_times : mAll (mOk RX1 cX1_times 6 true false (some .int) (mnat p_Dr_times)) 0 k_Dr_times := mA (i := 0) (ok_ic (n := 0) (pc := 0) (by decide +kernel) rfl rfl (by decide +kernel)) (
  mA (i := 1) (ok_ist (pc := 1) (by decide +kernel) rfl rfl rfl (by decide +kernel)) (
  mA (i := 2) (ok_ild_n (f := 2) (pc := 3) rfl rfl rfl (by decide +kernel)) (
  mA (i := 3) (ok_ist (pc := 4) (by decide +kernel) rfl rfl rfl (by decide +kernel)) (
  mA (i := 4) (ok_ild (pc := 6) rfl rfl (by decide +kernel)) (
  mA (i := 5) (ok_ild_n (f := 3) (pc := 8) rfl rfl rfl (by decide +kernel)) (
  mA (i := 6) (ok_cge (off := 22) (pc := 9) (tgt := 31) rfl rfl rfl (by decide +kernel) (by decide +kernel)) (
  mA (i := 7) (ok_ald_n (f := 0) (pc := 12) rfl rfl rfl (by decide +kernel)) (
  mA (i := 8) (ok_ild (pc := 13) rfl rfl (by decide +kernel)) (
  mA (i := 9) (ok_callI (pc := 15) (can_V cal_Dr_codeAt (by decide +kernel) rfl (by decide +kernel) rfl wd_68 wd_15 wd_16 wd_7 (by decide +kernel)) rfl rfl) (
  mA (i := 10) (ok_ild_n (f := 1) (pc := 18) rfl rfl rfl (by decide +kernel)) (
  mA (i := 11) (ok_cne (off := 6) (pc := 19) (tgt := 25) rfl rfl rfl (by decide +kernel) (by decide +kernel)) (
  mA (i := 12) (ok_inc (z := 1) (pc := 22) (by decide +kernel) (by decide +kernel) rfl rfl rfl (by decide +kernel)) (
  mA (i := 13) (ok_inc (z := 1) (pc := 25) (by decide +kernel) (by decide +kernel) rfl rfl rfl (by decide +kernel)) (
  mA (i := 14) (ok_goto (off := (-22)) (pc := 28) (tgt := 6) rfl rfl (by decide +kernel) (by decide +kernel)) (
  mA (i := 15) (ok_ild (pc := 31) rfl rfl (by decide +kernel)) (
  mA (i := 16) (ok_iret (pc := 33) rfl rfl (by decide +kernel)) (
  mZ)))))))))))))))))
set_option maxRecDepth 20000 in
theorem ok_Dr_endOfTerm : mAll (mOk RX1 cX1_endOfTerm 4 true false (some .int) (mnat p_Dr_endOfTerm)) 0 k_Dr_endOfTerm := mA (i := 0) (ok_ic (n := 1) (pc := 0) (by decide +kernel) rfl rfl (by decide +kernel)) (
  mA (i := 1) (ok_ist_n (f := 2) (pc := 1) rfl (by decide +kernel) rfl rfl rfl (by decide +kernel)) (
  mA (i := 2) (ok_ild_n (f := 1) (pc := 2) rfl rfl rfl (by decide +kernel)) (
  mA (i := 3) (ok_ic (n := 0) (pc := 3) (by decide +kernel) rfl rfl (by decide +kernel)) (
  mA (i := 4) (ok_callI (pc := 4) (can_S cal_Jm_max (by decide +kernel) wd_73 wd_8 wd_9 (by decide +kernel)) rfl rfl) (
  mA (i := 5) (ok_ist_n (f := 3) (pc := 7) rfl (by decide +kernel) rfl rfl rfl (by decide +kernel)) (
  mA (i := 6) (ok_ild_n (f := 2) (pc := 8) rfl rfl rfl (by decide +kernel)) (
  mA (i := 7) (ok_ifle (off := 30) (pc := 9) (tgt := 39) rfl rfl rfl (by decide +kernel) (by decide +kernel)) (
  mA (i := 8) (ok_ild_n (f := 3) (pc := 12) rfl rfl rfl (by decide +kernel)) (
  mA (i := 9) (ok_ald_n (f := 0) (pc := 13) rfl rfl rfl (by decide +kernel)) (
  mA (i := 10) (ok_gI (pc := 14) rfl (by decide +kernel) wd_53 inw_2 rfl rfl (by decide +kernel)) (
  mA (i := 11) (ok_cge (off := 22) (pc := 17) (tgt := 39) rfl rfl rfl (by decide +kernel) (by decide +kernel)) (
  mA (i := 12) (ok_ild_n (f := 2) (pc := 20) rfl rfl rfl (by decide +kernel)) (
  mA (i := 13) (ok_ald_n (f := 0) (pc := 21) rfl rfl rfl (by decide +kernel)) (
  mA (i := 14) (ok_ild_n (f := 3) (pc := 22) rfl rfl rfl (by decide +kernel)) (
  mA (i := 15) (ok_callI (pc := 23) (can_V cal_Dr_codeAt (by decide +kernel) rfl (by decide +kernel) rfl wd_68 wd_15 wd_16 wd_7 (by decide +kernel)) rfl rfl) (
  mA (i := 16) (ok_callI (pc := 26) (can_SN cal_C_termsBehind (by decide +kernel) wn_75 wd_74 wd_35 (by decide +kernel)) rfl rfl) (
  mA (i := 17) (ok_ic (n := 1) (pc := 29) (by decide +kernel) rfl rfl (by decide +kernel)) (
  mA (i := 18) (ok_sub (pc := 30) rfl rfl (by decide +kernel)) (
  mA (i := 19) (ok_add (pc := 31) rfl rfl (by decide +kernel)) (
  mA (i := 20) (ok_ist_n (f := 2) (pc := 32) rfl (by decide +kernel) rfl rfl rfl (by decide +kernel)) (
  mA (i := 21) (ok_inc (z := 1) (pc := 33) (by decide +kernel) (by decide +kernel) rfl rfl rfl (by decide +kernel)) (
  mA (i := 22) (ok_goto (off := (-28)) (pc := 36) (tgt := 8) rfl rfl (by decide +kernel) (by decide +kernel)) (
  mA (i := 23) (ok_ild_n (f := 3) (pc := 39) rfl rfl rfl (by decide +kernel)) (
  mA (i := 24) (ok_iret (pc := 40) rfl rfl (by decide +kernel)) (
  mZ)))))))))))))))))))))))))
set_option maxRecDepth 20000 in
theorem ok_Dr_startOf : mAll (mOk RX1 cX1_startOf 4 true false (some .int) (mnat p_Dr_startOf)) 0 k_Dr_startOf := mA (i := 0) (ok_ic (n := 0) (pc := 0) (by decide +kernel) rfl rfl (by decide +kernel)) (
  mA (i := 1) (ok_ist_n (f := 2) (pc := 1) rfl (by decide +kernel) rfl rfl rfl (by decide +kernel)) (
  mA (i := 2) (ok_ic (n := 0) (pc := 2) (by decide +kernel) rfl rfl (by decide +kernel)) (
  mA (i := 3) (ok_ist_n (f := 3) (pc := 3) rfl (by decide +kernel) rfl rfl rfl (by decide +kernel)) (
  mA (i := 4) (ok_ild_n (f := 3) (pc := 4) rfl rfl rfl (by decide +kernel)) (
  mA (i := 5) (ok_ald_n (f := 0) (pc := 5) rfl rfl rfl (by decide +kernel)) (
  mA (i := 6) (ok_gI (pc := 6) rfl (by decide +kernel) wd_53 inw_2 rfl rfl (by decide +kernel)) (
  mA (i := 7) (ok_cge (off := 29) (pc := 9) (tgt := 38) rfl rfl rfl (by decide +kernel) (by decide +kernel)) (
  mA (i := 8) (ok_ald_n (f := 0) (pc := 12) rfl rfl rfl (by decide +kernel)) (
  mA (i := 9) (ok_ild_n (f := 3) (pc := 13) rfl rfl rfl (by decide +kernel)) (
  mA (i := 10) (ok_callI (pc := 14) (can_V cal_Dr_codeAt (by decide +kernel) rfl (by decide +kernel) rfl wd_68 wd_15 wd_16 wd_7 (by decide +kernel)) rfl rfl) (
  mA (i := 11) (ok_bi (n := 100) (pc := 17) (by decide +kernel) rfl rfl (by decide +kernel)) (
  mA (i := 12) (ok_clt (off := 13) (pc := 19) (tgt := 32) rfl rfl rfl (by decide +kernel) (by decide +kernel)) (
  mA (i := 13) (ok_ild_n (f := 2) (pc := 22) rfl rfl rfl (by decide +kernel)) (
  mA (i := 14) (ok_ild_n (f := 1) (pc := 23) rfl rfl rfl (by decide +kernel)) (
  mA (i := 15) (ok_cne (off := 5) (pc := 24) (tgt := 29) rfl rfl rfl (by decide +kernel) (by decide +kernel)) (
  mA (i := 16) (ok_ild_n (f := 3) (pc := 27) rfl rfl rfl (by decide +kernel)) (
  mA (i := 17) (ok_iret (pc := 28) rfl rfl (by decide +kernel)) (
  mA (i := 18) (ok_inc (z := 1) (pc := 29) (by decide +kernel) (by decide +kernel) rfl rfl rfl (by decide +kernel)) (
  mA (i := 19) (ok_inc (z := 1) (pc := 32) (by decide +kernel) (by decide +kernel) rfl rfl rfl (by decide +kernel)) (
  mA (i := 20) (ok_goto (off := (-31)) (pc := 35) (tgt := 4) rfl rfl (by decide +kernel) (by decide +kernel)) (
  mA (i := 21) (ok_ald_n (f := 0) (pc := 38) rfl rfl rfl (by decide +kernel)) (
  mA (i := 22) (ok_gI (pc := 39) rfl (by decide +kernel) wd_53 inw_2 rfl rfl (by decide +kernel)) (
  mA (i := 23) (ok_iret (pc := 42) rfl rfl (by decide +kernel)) (
  mZ))))))))))))))))))))))))
set_option maxRecDepth 20000 in
theorem ok_Hi_init : mAll (mOk RX2 cX2_init 2 true true none (mnat p_Hi_init)) 0 k_Hi_init := mA (i := 0) (ok_ald_n (f := 0) (pc := 0) rfl rfl rfl (by decide +kernel)) (
  mA (i := 1) (ok_obj (pc := 1) wd_76 wd_1 wd_objc rfl rfl (by decide +kernel)) (
  mA (i := 2) (ok_ald_n (f := 0) (pc := 4) rfl rfl rfl (by decide +kernel)) (
  mA (i := 3) (ok_bi (n := 10) (pc := 5) (by decide +kernel) rfl rfl (by decide +kernel)) (
  mA (i := 4) (ok_anew (pc := 7) (Or.inr ⟨rfl, rfl, rfl⟩) wd_77 rfl rfl (by decide +kernel)) (
  mA (i := 5) (ok_pPF (pc := 10) rfl (by decide +kernel) wd_78 inw_3 tyX2_ok nmX2 rfl rfl rfl (tyX2_ok 0 (by decide +kernel)) rfl rfl rfl (by decide +kernel)) (
  mA (i := 6) (ok_ic (n := 0) (pc := 13) (by decide +kernel) rfl rfl (by decide +kernel)) (
  mA (i := 7) (ok_ist_n (f := 1) (pc := 14) rfl (by decide +kernel) rfl rfl rfl (by decide +kernel)) (
  mA (i := 8) (ok_ild_n (f := 1) (pc := 15) rfl rfl rfl (by decide +kernel)) (
  mA (i := 9) (ok_bi (n := 10) (pc := 16) (by decide +kernel) rfl rfl (by decide +kernel)) (
  mA (i := 10) (ok_cge (off := 22) (pc := 18) (tgt := 40) rfl rfl rfl (by decide +kernel) (by decide +kernel)) (
  mA (i := 11) (ok_ald_n (f := 0) (pc := 21) rfl rfl rfl (by decide +kernel)) (
  mA (i := 12) (ok_gP (pc := 22) rfl (by decide +kernel) wd_78 inw_3 rfl rfl (by decide +kernel)) (
  mA (i := 13) (ok_ild_n (f := 1) (pc := 25) rfl rfl rfl (by decide +kernel)) (
  mA (i := 14) (ok_new (pc := 26) rfl (by decide +kernel) tyX7_ok df_8 wd_77 wd_79 wd_80 inw_8 rfl rfl (by decide +kernel)) (
  mA (i := 15) (ok_dup (pc := 29) rfl rfl (by decide +kernel)) (
  mA (i := 16) (ok_callV (pc := 30) (can_INk (by decide +kernel) cal_St_init (by decide +kernel) rfl wn_82 wd_81 wd_80 (by decide +kernel)) rfl rfl) (
  mA (i := 17) (ok_aast (pc := 33) (Or.inr ⟨rfl, rfl, rfl, rfl⟩) rfl rfl (by decide +kernel)) (
  mA (i := 18) (ok_inc (z := 1) (pc := 34) (by decide +kernel) (by decide +kernel) rfl rfl rfl (by decide +kernel)) (
  mA (i := 19) (ok_goto (off := (-22)) (pc := 37) (tgt := 15) rfl rfl (by decide +kernel) (by decide +kernel)) (
  mA (i := 20) (ok_vret (pc := 40) rfl rfl (by decide +kernel)) (
  mZ)))))))))))))))))))))
set_option maxRecDepth 20000 in
theorem ok_Hi_size : mAll (mOk RX2 cX2_size 1 true false (some .int) (mnat p_Hi_size)) 0 k_Hi_size := mA (i := 0) (ok_ald_n (f := 0) (pc := 0) rfl rfl rfl (by decide +kernel)) (
  mA (i := 1) (ok_gI (pc := 1) rfl (by decide +kernel) wd_83 inw_3 rfl rfl (by decide +kernel)) (
  mA (i := 2) (ok_iret (pc := 4) rfl rfl (by decide +kernel)) (
  mZ)))
set_option maxRecDepth 20000 in
theorem ok_Hi_note : mAll (mOk RX2 cX2_note 2 true false none (mnat p_Hi_note)) 0 k_Hi_note := mA (i := 0) (ok_ald_n (f := 0) (pc := 0) rfl rfl rfl (by decide +kernel)) (
  mA (i := 1) (ok_gI (pc := 1) rfl (by decide +kernel) wd_84 inw_3 rfl rfl (by decide +kernel)) (
  mA (i := 2) (ok_iflt (off := 12) (pc := 4) (tgt := 16) rfl rfl rfl (by decide +kernel) (by decide +kernel)) (
  mA (i := 3) (ok_ald_n (f := 0) (pc := 7) rfl rfl rfl (by decide +kernel)) (
  mA (i := 4) (ok_gI (pc := 8) rfl (by decide +kernel) wd_84 inw_3 rfl rfl (by decide +kernel)) (
  mA (i := 5) (ok_bi (n := 10) (pc := 11) (by decide +kernel) rfl rfl (by decide +kernel)) (
  mA (i := 6) (ok_clt (off := 4) (pc := 13) (tgt := 17) rfl rfl rfl (by decide +kernel) (by decide +kernel)) (
  mA (i := 7) (ok_vret (pc := 16) rfl rfl (by decide +kernel)) (
  mA (i := 8) (ok_ald_n (f := 0) (pc := 17) rfl rfl rfl (by decide +kernel)) (
  mA (i := 9) (ok_gP (pc := 18) rfl (by decide +kernel) wd_78 inw_3 rfl rfl (by decide +kernel)) (
  mA (i := 10) (ok_ald_n (f := 0) (pc := 21) rfl rfl rfl (by decide +kernel)) (
  mA (i := 11) (ok_gI (pc := 22) rfl (by decide +kernel) wd_84 inw_3 rfl rfl (by decide +kernel)) (
  mA (i := 12) (ok_aald (pc := 25) (Or.inr ⟨rfl, rfl, rfl⟩) rfl rfl (by decide +kernel)) (
  mA (i := 13) (ok_ald_n (f := 1) (pc := 26) rfl rfl rfl (by decide +kernel)) (
  mA (i := 14) (ok_callV (pc := 27) (can_V cal_St_copy (by decide +kernel) rfl (by decide +kernel) rfl wd_85 wd_86 wd_87 wd_80 (by decide +kernel)) rfl rfl) (
  mA (i := 15) (ok_ald_n (f := 0) (pc := 30) rfl rfl rfl (by decide +kernel)) (
  mA (i := 16) (ok_ald_n (f := 0) (pc := 31) rfl rfl rfl (by decide +kernel)) (
  mA (i := 17) (ok_gI (pc := 32) rfl (by decide +kernel) wd_84 inw_3 rfl rfl (by decide +kernel)) (
  mA (i := 18) (ok_ic (n := 1) (pc := 35) (by decide +kernel) rfl rfl (by decide +kernel)) (
  mA (i := 19) (ok_add (pc := 36) rfl rfl (by decide +kernel)) (
  mA (i := 20) (ok_bi (n := 10) (pc := 37) (by decide +kernel) rfl rfl (by decide +kernel)) (
  mA (i := 21) (ok_callI (pc := 39) (can_S cal_Jm_floorMod (by decide +kernel) wd_89 wd_88 wd_9 (by decide +kernel)) rfl rfl) (
  mA (i := 22) (ok_pI (pc := 42) rfl (by decide +kernel) wd_84 inw_3 tyX2_ok nmX2 rfl (by decide +kernel) rfl rfl (by decide +kernel)) (
  mA (i := 23) (ok_ald_n (f := 0) (pc := 45) rfl rfl rfl (by decide +kernel)) (
  mA (i := 24) (ok_ald_n (f := 0) (pc := 46) rfl rfl rfl (by decide +kernel)) (
  mA (i := 25) (ok_gI (pc := 47) rfl (by decide +kernel) wd_83 inw_3 rfl rfl (by decide +kernel)) (
  mA (i := 26) (ok_ic (n := 1) (pc := 50) (by decide +kernel) rfl rfl (by decide +kernel)) (
  mA (i := 27) (ok_add (pc := 51) rfl rfl (by decide +kernel)) (
  mA (i := 28) (ok_bi (n := 10) (pc := 52) (by decide +kernel) rfl rfl (by decide +kernel)) (
  mA (i := 29) (ok_callI (pc := 54) (can_S cal_Jm_min (by decide +kernel) wd_91 wd_90 wd_9 (by decide +kernel)) rfl rfl) (
  mA (i := 30) (ok_pI (pc := 57) rfl (by decide +kernel) wd_83 inw_3 tyX2_ok nmX2 rfl (by decide +kernel) rfl rfl (by decide +kernel)) (
  mA (i := 31) (ok_vret (pc := 60) rfl rfl (by decide +kernel)) (
  mZ))))))))))))))))))))))))))))))))
set_option maxRecDepth 20000 in
theorem ok_Hi_goBack : mAll (mOk RX2 cX2_goBack 3 true false none (mnat p_Hi_goBack)) 0 k_Hi_goBack := mA (i := 0) (ok_ild_n (f := 1) (pc := 0) rfl rfl rfl (by decide +kernel)) (
  mA (i := 1) (ok_ic (n := 1) (pc := 1) (by decide +kernel) rfl rfl (by decide +kernel)) (
  mA (i := 2) (ok_clt (off := 11) (pc := 2) (tgt := 13) rfl rfl rfl (by decide +kernel) (by decide +kernel)) (
  mA (i := 3) (ok_ild_n (f := 1) (pc := 5) rfl rfl rfl (by decide +kernel)) (
  mA (i := 4) (ok_ald_n (f := 0) (pc := 6) rfl rfl rfl (by decide +kernel)) (
  mA (i := 5) (ok_gI (pc := 7) rfl (by decide +kernel) wd_83 inw_3 rfl rfl (by decide +kernel)) (
  mA (i := 6) (ok_cle (off := 4) (pc := 10) (tgt := 14) rfl rfl rfl (by decide +kernel) (by decide +kernel)) (
  mA (i := 7) (ok_vret (pc := 13) rfl rfl (by decide +kernel)) (
  mA (i := 8) (ok_ald_n (f := 0) (pc := 14) rfl rfl rfl (by decide +kernel)) (
  mA (i := 9) (ok_ald_n (f := 0) (pc := 15) rfl rfl rfl (by decide +kernel)) (
  mA (i := 10) (ok_gI (pc := 16) rfl (by decide +kernel) wd_84 inw_3 rfl rfl (by decide +kernel)) (
  mA (i := 11) (ok_ild_n (f := 1) (pc := 19) rfl rfl rfl (by decide +kernel)) (
  mA (i := 12) (ok_sub (pc := 20) rfl rfl (by decide +kernel)) (
  mA (i := 13) (ok_bi (n := 10) (pc := 21) (by decide +kernel) rfl rfl (by decide +kernel)) (
  mA (i := 14) (ok_callI (pc := 23) (can_S cal_Jm_floorMod (by decide +kernel) wd_89 wd_88 wd_9 (by decide +kernel)) rfl rfl) (
  mA (i := 15) (ok_pI (pc := 26) rfl (by decide +kernel) wd_84 inw_3 tyX2_ok nmX2 rfl (by decide +kernel) rfl rfl (by decide +kernel)) (
  mA (i := 16) (ok_ald_n (f := 0) (pc := 29) rfl rfl rfl (by decide +kernel)) (
  mA (i := 17) (ok_dup (pc := 30) rfl rfl (by decide +kernel)) (
  mA (i := 18) (ok_gI (pc := 31) rfl (by decide +kernel) wd_83 inw_3 rfl rfl (by decide +kernel)) (
  mA (i := 19) (ok_ild_n (f := 1) (pc := 34) rfl rfl rfl (by decide +kernel)) (
  mA (i := 20) (ok_sub (pc := 35) rfl rfl (by decide +kernel)) (
  mA (i := 21) (ok_pI (pc := 36) rfl (by decide +kernel) wd_83 inw_3 tyX2_ok nmX2 rfl (by decide +kernel) rfl rfl (by decide +kernel)) (
  mA (i := 22) (ok_ald_n (f := 2) (pc := 39) rfl rfl rfl (by decide +kernel)) (
  mA (i := 23) (ok_ald_n (f := 0) (pc := 40) rfl rfl rfl (by decide +kernel)) (
  mA (i := 24) (ok_gP (pc := 41) rfl (by decide +kernel) wd_78 inw_3 rfl rfl (by decide +kernel)) (
  mA (i := 25) (ok_ald_n (f := 0) (pc := 44) rfl rfl rfl (by decide +kernel)) (
  mA (i := 26) (ok_gI (pc := 45) rfl (by decide +kernel) wd_84 inw_3 rfl rfl (by decide +kernel)) (
  mA (i := 27) (ok_aald (pc := 48) (Or.inr ⟨rfl, rfl, rfl⟩) rfl rfl (by decide +kernel)) (
  mA (i := 28) (ok_callV (pc := 49) (can_V cal_St_copy (by decide +kernel) rfl (by decide +kernel) rfl wd_85 wd_86 wd_87 wd_80 (by decide +kernel)) rfl rfl) (
  mA (i := 29) (ok_vret (pc := 52) rfl rfl (by decide +kernel)) (
  mZ))))))))))))))))))))))))))))))
set_option maxRecDepth 20000 in
theorem ok_Hi_forget : mAll (mOk RX2 cX2_forget 1 true false none (mnat p_Hi_forget)) 0 k_Hi_forget := mA (i := 0) (ok_ald_n (f := 0) (pc := 0) rfl rfl rfl (by decide +kernel)) (
  mA (i := 1) (ok_ic (n := 0) (pc := 1) (by decide +kernel) rfl rfl (by decide +kernel)) (
  mA (i := 2) (ok_pI (pc := 2) rfl (by decide +kernel) wd_83 inw_3 tyX2_ok nmX2 rfl (by decide +kernel) rfl rfl (by decide +kernel)) (
  mA (i := 3) (ok_vret (pc := 5) rfl rfl (by decide +kernel)) (
  mZ))))
set_option maxRecDepth 20000 in
theorem ok_Ma_init : mAll (mOk RX3 cX3_init 1 true true none (mnat p_Ma_init)) 0 k_Ma_init := mA (i := 0) (ok_ald_n (f := 0) (pc := 0) rfl rfl rfl (by decide +kernel)) (
  mA (i := 1) (ok_obj (pc := 1) wd_92 wd_1 wd_objc rfl rfl (by decide +kernel)) (
  mA (i := 2) (ok_ald_n (f := 0) (pc := 4) rfl rfl rfl (by decide +kernel)) (
  mA (i := 3) (ok_ic (n := 5) (pc := 5) (by decide +kernel) rfl rfl (by decide +kernel)) (
  mA (i := 4) (ok_newi (pc := 6) wd_2 rfl rfl (by decide +kernel)) (
  mA (i := 5) (ok_pPF (pc := 8) rfl (by decide +kernel) wd_93 inw_4 tyX3_ok nmX3 rfl rfl rfl (tyX3_ok 0 (by decide +kernel)) rfl rfl rfl (by decide +kernel)) (
  mA (i := 6) (ok_ald_n (f := 0) (pc := 11) rfl rfl rfl (by decide +kernel)) (
  mA (i := 7) (ok_bi (n := 6) (pc := 12) (by decide +kernel) rfl rfl (by decide +kernel)) (
  mA (i := 8) (ok_newi (pc := 14) wd_2 rfl rfl (by decide +kernel)) (
  mA (i := 9) (ok_pPF (pc := 16) rfl (by decide +kernel) wd_94 inw_4 tyX3_ok nmX3 rfl rfl rfl (tyX3_ok 1 (by decide +kernel)) rfl rfl rfl (by decide +kernel)) (
  mA (i := 10) (ok_vret (pc := 19) rfl rfl (by decide +kernel)) (
  mZ)))))))))))
set_option maxRecDepth 20000 in
theorem ok_Ma_findsFirst : mAll (mOk RX3 cX3_findsFirst 4 true false (some .boolean) (mnat p_Ma_findsFirst)) 0 k_Ma_findsFirst := mA (i := 0) (ok_ald_n (f := 0) (pc := 0) rfl rfl rfl (by decide +kernel)) (
  mA (i := 1) (ok_ald_n (f := 1) (pc := 1) rfl rfl rfl (by decide +kernel)) (
  mA (i := 2) (ok_ild_n (f := 3) (pc := 2) rfl rfl rfl (by decide +kernel)) (
  mA (i := 3) (ok_ic (n := 1) (pc := 3) (by decide +kernel) rfl rfl (by decide +kernel)) (
  mA (i := 4) (ok_cne (off := 7) (pc := 4) (tgt := 11) rfl rfl rfl (by decide +kernel) (by decide +kernel)) (
  mA (i := 5) (ok_ic (n := 1) (pc := 7) (by decide +kernel) rfl rfl (by decide +kernel)) (
  mA (i := 6) (ok_goto (off := 4) (pc := 8) (tgt := 12) rfl rfl (by decide +kernel) (by decide +kernel)) (
  mA (i := 7) (ok_ic (n := 0) (pc := 11) (by decide +kernel) rfl rfl (by decide +kernel)) (
  mA (i := 8) (ok_callV (pc := 12) (can_V cal_Ma_aim (by decide +kernel) rfl (by decide +kernel) rfl wd_95 wd_96 wd_97 wd_98 (by decide +kernel)) rfl rfl) (
  mA (i := 9) (ok_ald_n (f := 0) (pc := 15) rfl rfl rfl (by decide +kernel)) (
  mA (i := 10) (ok_ald_n (f := 1) (pc := 16) rfl rfl rfl (by decide +kernel)) (
  mA (i := 11) (ok_ald_n (f := 2) (pc := 17) rfl rfl rfl (by decide +kernel)) (
  mA (i := 12) (ok_ic (n := 0) (pc := 18) (by decide +kernel) rfl rfl (by decide +kernel)) (
  mA (i := 13) (ok_ald_n (f := 2) (pc := 19) rfl rfl rfl (by decide +kernel)) (
  mA (i := 14) (ok_callI (pc := 20) (can_S cal_Ma_allOf (by decide +kernel) wd_100 wd_99 wd_98 (by decide +kernel)) rfl rfl) (
  mA (i := 15) (ok_callV (pc := 23) (can_V cal_Ma_settle (by decide +kernel) rfl (by decide +kernel) rfl wd_101 wd_102 wd_103 wd_98 (by decide +kernel)) rfl rfl) (
  mA (i := 16) (ok_ald_n (f := 0) (pc := 26) rfl rfl rfl (by decide +kernel)) (
  mA (i := 17) (ok_gI (pc := 27) rfl (by decide +kernel) wd_104 inw_4 rfl rfl (by decide +kernel)) (
  mA (i := 18) (ok_ifle (off := 7) (pc := 30) (tgt := 37) rfl rfl rfl (by decide +kernel) (by decide +kernel)) (
  mA (i := 19) (ok_ic (n := 1) (pc := 33) (by decide +kernel) rfl rfl (by decide +kernel)) (
  mA (i := 20) (ok_goto (off := 4) (pc := 34) (tgt := 38) rfl rfl (by decide +kernel) (by decide +kernel)) (
  mA (i := 21) (ok_ic (n := 0) (pc := 37) (by decide +kernel) rfl rfl (by decide +kernel)) (
  mA (i := 22) (ok_zret (pc := 38) rfl rfl (by decide +kernel)) (
  mZ)))))))))))))))))))))))
set_option maxRecDepth 20000 in
theorem ok_Ma_countAll : mAll (mOk RX3 cX3_countAll 4 true false (some .int) (mnat p_Ma_countAll)) 0 k_Ma_countAll := mA (i := 0) (ok_ald_n (f := 0) (pc := 0) rfl rfl rfl (by decide +kernel)) (
  mA (i := 1) (ok_ald_n (f := 1) (pc := 1) rfl rfl rfl (by decide +kernel)) (
  mA (i := 2) (ok_ild_n (f := 3) (pc := 2) rfl rfl rfl (by decide +kernel)) (
  mA (i := 3) (ok_ic (n := 1) (pc := 3) (by decide +kernel) rfl rfl (by decide +kernel)) (
  mA (i := 4) (ok_cne (off := 7) (pc := 4) (tgt := 11) rfl rfl rfl (by decide +kernel) (by decide +kernel)) (
  mA (i := 5) (ok_ic (n := 1) (pc := 7) (by decide +kernel) rfl rfl (by decide +kernel)) (
  mA (i := 6) (ok_goto (off := 4) (pc := 8) (tgt := 12) rfl rfl (by decide +kernel) (by decide +kernel)) (
  mA (i := 7) (ok_ic (n := 0) (pc := 11) (by decide +kernel) rfl rfl (by decide +kernel)) (
  mA (i := 8) (ok_callV (pc := 12) (can_V cal_Ma_aim (by decide +kernel) rfl (by decide +kernel) rfl wd_95 wd_96 wd_97 wd_98 (by decide +kernel)) rfl rfl) (
  mA (i := 9) (ok_ald_n (f := 0) (pc := 15) rfl rfl rfl (by decide +kernel)) (
  mA (i := 10) (ok_ldc (pc := 16) wd_105 rfl rfl (by decide +kernel)) (
  mA (i := 11) (ok_pI (pc := 18) rfl (by decide +kernel) wd_106 inw_4 tyX3_ok nmX3 rfl (by decide +kernel) rfl rfl (by decide +kernel)) (
  mA (i := 12) (ok_ald_n (f := 0) (pc := 21) rfl rfl rfl (by decide +kernel)) (
  mA (i := 13) (ok_ald_n (f := 1) (pc := 22) rfl rfl rfl (by decide +kernel)) (
  mA (i := 14) (ok_ald_n (f := 2) (pc := 23) rfl rfl rfl (by decide +kernel)) (
  mA (i := 15) (ok_ic (n := 0) (pc := 24) (by decide +kernel) rfl rfl (by decide +kernel)) (
  mA (i := 16) (ok_ald_n (f := 2) (pc := 25) rfl rfl rfl (by decide +kernel)) (
  mA (i := 17) (ok_callI (pc := 26) (can_S cal_Ma_allOf (by decide +kernel) wd_100 wd_99 wd_98 (by decide +kernel)) rfl rfl) (
  mA (i := 18) (ok_callV (pc := 29) (can_V cal_Ma_settle (by decide +kernel) rfl (by decide +kernel) rfl wd_101 wd_102 wd_103 wd_98 (by decide +kernel)) rfl rfl) (
  mA (i := 19) (ok_ald_n (f := 0) (pc := 32) rfl rfl rfl (by decide +kernel)) (
  mA (i := 20) (ok_gI (pc := 33) rfl (by decide +kernel) wd_104 inw_4 rfl rfl (by decide +kernel)) (
  mA (i := 21) (ok_iret (pc := 36) rfl rfl (by decide +kernel)) (
  mZ))))))))))))))))))))))
set_option maxRecDepth 20000 in
theorem ok_Ma_findsForOne : mAll (mOk RX3 cX3_findsForOne 4 true false (some .boolean) (mnat p_Ma_findsForOne)) 0 k_Ma_findsForOne := mA (i := 0) (ok_ald_n (f := 0) (pc := 0) rfl rfl rfl (by decide +kernel)) (
  mA (i := 1) (ok_ald_n (f := 1) (pc := 1) rfl rfl rfl (by decide +kernel)) (
  mA (i := 2) (ok_ic (n := 0) (pc := 2) (by decide +kernel) rfl rfl (by decide +kernel)) (
  mA (i := 3) (ok_callV (pc := 3) (can_V cal_Ma_aim (by decide +kernel) rfl (by decide +kernel) rfl wd_95 wd_96 wd_97 wd_98 (by decide +kernel)) rfl rfl) (
  mA (i := 4) (ok_ald_n (f := 0) (pc := 6) rfl rfl rfl (by decide +kernel)) (
  mA (i := 5) (ok_ild_n (f := 2) (pc := 7) rfl rfl rfl (by decide +kernel)) (
  mA (i := 6) (ok_pI (pc := 8) rfl (by decide +kernel) wd_107 inw_4 tyX3_ok nmX3 rfl (by decide +kernel) rfl rfl (by decide +kernel)) (
  mA (i := 7) (ok_ald_n (f := 0) (pc := 11) rfl rfl rfl (by decide +kernel)) (
  mA (i := 8) (ok_ald_n (f := 1) (pc := 12) rfl rfl rfl (by decide +kernel)) (
  mA (i := 9) (ok_ald_n (f := 3) (pc := 13) rfl rfl rfl (by decide +kernel)) (
  mA (i := 10) (ok_ild_n (f := 2) (pc := 14) rfl rfl rfl (by decide +kernel)) (
  mA (i := 11) (ok_ald_n (f := 3) (pc := 15) rfl rfl rfl (by decide +kernel)) (
  mA (i := 12) (ok_callI (pc := 16) (can_S cal_Ma_allOf (by decide +kernel) wd_100 wd_99 wd_98 (by decide +kernel)) rfl rfl) (
  mA (i := 13) (ok_callV (pc := 19) (can_V cal_Ma_settle (by decide +kernel) rfl (by decide +kernel) rfl wd_101 wd_102 wd_103 wd_98 (by decide +kernel)) rfl rfl) (
  mA (i := 14) (ok_ald_n (f := 0) (pc := 22) rfl rfl rfl (by decide +kernel)) (
  mA (i := 15) (ok_gI (pc := 23) rfl (by decide +kernel) wd_104 inw_4 rfl rfl (by decide +kernel)) (
  mA (i := 16) (ok_ifle (off := 7) (pc := 26) (tgt := 33) rfl rfl rfl (by decide +kernel) (by decide +kernel)) (
  mA (i := 17) (ok_ic (n := 1) (pc := 29) (by decide +kernel) rfl rfl (by decide +kernel)) (
  mA (i := 18) (ok_goto (off := 4) (pc := 30) (tgt := 34) rfl rfl (by decide +kernel) (by decide +kernel)) (
  mA (i := 19) (ok_ic (n := 0) (pc := 33) (by decide +kernel) rfl rfl (by decide +kernel)) (
  mA (i := 20) (ok_zret (pc := 34) rfl rfl (by decide +kernel)) (
  mZ)))))))))))))))))))))
set_option maxRecDepth 20000 in
theorem ok_Ma_findsAmong : mAll (mOk RX3 cX3_findsAmong 4 true false (some .boolean) (mnat p_Ma_findsAmong)) 0 k_Ma_findsAmong := mA (i := 0) (ok_ald_n (f := 0) (pc := 0) rfl rfl rfl (by decide +kernel)) (
  mA (i := 1) (ok_ald_n (f := 1) (pc := 1) rfl rfl rfl (by decide +kernel)) (
  mA (i := 2) (ok_ic (n := 0) (pc := 2) (by decide +kernel) rfl rfl (by decide +kernel)) (
  mA (i := 3) (ok_callV (pc := 3) (can_V cal_Ma_aim (by decide +kernel) rfl (by decide +kernel) rfl wd_95 wd_96 wd_97 wd_98 (by decide +kernel)) rfl rfl) (
  mA (i := 4) (ok_ald_n (f := 0) (pc := 6) rfl rfl rfl (by decide +kernel)) (
  mA (i := 5) (ok_ald_n (f := 1) (pc := 7) rfl rfl rfl (by decide +kernel)) (
  mA (i := 6) (ok_ald_n (f := 2) (pc := 8) rfl rfl rfl (by decide +kernel)) (
  mA (i := 7) (ok_ic (n := 0) (pc := 9) (by decide +kernel) rfl rfl (by decide +kernel)) (
  mA (i := 8) (ok_ild_n (f := 3) (pc := 10) rfl rfl rfl (by decide +kernel)) (
  mA (i := 9) (ok_callV (pc := 11) (can_V cal_Ma_settle (by decide +kernel) rfl (by decide +kernel) rfl wd_101 wd_102 wd_103 wd_98 (by decide +kernel)) rfl rfl) (
  mA (i := 10) (ok_ald_n (f := 0) (pc := 14) rfl rfl rfl (by decide +kernel)) (
  mA (i := 11) (ok_gI (pc := 15) rfl (by decide +kernel) wd_104 inw_4 rfl rfl (by decide +kernel)) (
  mA (i := 12) (ok_ifle (off := 7) (pc := 18) (tgt := 25) rfl rfl rfl (by decide +kernel) (by decide +kernel)) (
  mA (i := 13) (ok_ic (n := 1) (pc := 21) (by decide +kernel) rfl rfl (by decide +kernel)) (
  mA (i := 14) (ok_goto (off := 4) (pc := 22) (tgt := 26) rfl rfl (by decide +kernel) (by decide +kernel)) (
  mA (i := 15) (ok_ic (n := 0) (pc := 25) (by decide +kernel) rfl rfl (by decide +kernel)) (
  mA (i := 16) (ok_zret (pc := 26) rfl rfl (by decide +kernel)) (
  mZ)))))))))))))))))
set_option maxRecDepth 20000 in
theorem ok_Ma_findsRenaming : mAll (mOk RX3 cX3_findsRenaming 3 true false (some .boolean) (mnat p_Ma_findsRenaming)) 0 k_Ma_findsRenaming := mA (i := 0) (ok_ald_n (f := 1) (pc := 0) rfl rfl rfl (by decide +kernel)) (
  mA (i := 1) (ok_callI (pc := 1) (can_V cal_Cl_size (by decide +kernel) rfl (by decide +kernel) rfl wd_108 wd_32 wd_33 wd_24 (by decide +kernel)) rfl rfl) (
  mA (i := 2) (ok_ald_n (f := 2) (pc := 4) rfl rfl rfl (by decide +kernel)) (
  mA (i := 3) (ok_callI (pc := 5) (can_V cal_Cl_size (by decide +kernel) rfl (by decide +kernel) rfl wd_108 wd_32 wd_33 wd_24 (by decide +kernel)) rfl rfl) (
  mA (i := 4) (ok_ceq (off := 5) (pc := 8) (tgt := 13) rfl rfl rfl (by decide +kernel) (by decide +kernel)) (
  mA (i := 5) (ok_ic (n := 0) (pc := 11) (by decide +kernel) rfl rfl (by decide +kernel)) (
  mA (i := 6) (ok_zret (pc := 12) rfl rfl (by decide +kernel)) (
  mA (i := 7) (ok_ald_n (f := 0) (pc := 13) rfl rfl rfl (by decide +kernel)) (
  mA (i := 8) (ok_ald_n (f := 1) (pc := 14) rfl rfl rfl (by decide +kernel)) (
  mA (i := 9) (ok_ic (n := 1) (pc := 15) (by decide +kernel) rfl rfl (by decide +kernel)) (
  mA (i := 10) (ok_callV (pc := 16) (can_V cal_Ma_aim (by decide +kernel) rfl (by decide +kernel) rfl wd_95 wd_96 wd_97 wd_98 (by decide +kernel)) rfl rfl) (
  mA (i := 11) (ok_ald_n (f := 0) (pc := 19) rfl rfl rfl (by decide +kernel)) (
  mA (i := 12) (ok_ic (n := 1) (pc := 20) (by decide +kernel) rfl rfl (by decide +kernel)) (
  mA (i := 13) (ok_pZ (pc := 21) rfl (by decide +kernel) wd_109 inw_4 tyX3_ok nmX3 rfl (by decide +kernel) rfl rfl (by decide +kernel)) (
  mA (i := 14) (ok_ald_n (f := 0) (pc := 24) rfl rfl rfl (by decide +kernel)) (
  mA (i := 15) (ok_ald_n (f := 1) (pc := 25) rfl rfl rfl (by decide +kernel)) (
  mA (i := 16) (ok_ald_n (f := 2) (pc := 26) rfl rfl rfl (by decide +kernel)) (
  mA (i := 17) (ok_ic (n := 0) (pc := 27) (by decide +kernel) rfl rfl (by decide +kernel)) (
  mA (i := 18) (ok_ald_n (f := 2) (pc := 28) rfl rfl rfl (by decide +kernel)) (
  mA (i := 19) (ok_callI (pc := 29) (can_S cal_Ma_allOf (by decide +kernel) wd_100 wd_99 wd_98 (by decide +kernel)) rfl rfl) (
  mA (i := 20) (ok_callV (pc := 32) (can_V cal_Ma_settle (by decide +kernel) rfl (by decide +kernel) rfl wd_101 wd_102 wd_103 wd_98 (by decide +kernel)) rfl rfl) (
  mA (i := 21) (ok_ald_n (f := 0) (pc := 35) rfl rfl rfl (by decide +kernel)) (
  mA (i := 22) (ok_gI (pc := 36) rfl (by decide +kernel) wd_104 inw_4 rfl rfl (by decide +kernel)) (
  mA (i := 23) (ok_ifle (off := 7) (pc := 39) (tgt := 46) rfl rfl rfl (by decide +kernel) (by decide +kernel)) (
  mA (i := 24) (ok_ic (n := 1) (pc := 42) (by decide +kernel) rfl rfl (by decide +kernel)) (
  mA (i := 25) (ok_goto (off := 4) (pc := 43) (tgt := 47) rfl rfl (by decide +kernel) (by decide +kernel)) (
  mA (i := 26) (ok_ic (n := 0) (pc := 46) (by decide +kernel) rfl rfl (by decide +kernel)) (
  mA (i := 27) (ok_zret (pc := 47) rfl rfl (by decide +kernel)) (
  mZ))))))))))))))))))))))))))))
set_option maxRecDepth 20000 in
theorem ok_Ma_placeOf : mAll (mOk RX3 cX3_placeOf 2 true false (some .int) (mnat p_Ma_placeOf)) 0 k_Ma_placeOf := mA (i := 0) (ok_ild_n (f := 1) (pc := 0) rfl rfl rfl (by decide +kernel)) (
  mA (i := 1) (ok_iflt (off := 17) (pc := 1) (tgt := 18) rfl rfl rfl (by decide +kernel) (by decide +kernel)) (
  mA (i := 2) (ok_ild_n (f := 1) (pc := 4) rfl rfl rfl (by decide +kernel)) (
  mA (i := 3) (ok_ic (n := 5) (pc := 5) (by decide +kernel) rfl rfl (by decide +kernel)) (
  mA (i := 4) (ok_cge (off := 12) (pc := 6) (tgt := 18) rfl rfl rfl (by decide +kernel) (by decide +kernel)) (
  mA (i := 5) (ok_ald_n (f := 0) (pc := 9) rfl rfl rfl (by decide +kernel)) (
  mA (i := 6) (ok_gP (pc := 10) rfl (by decide +kernel) wd_93 inw_4 rfl rfl (by decide +kernel)) (
  mA (i := 7) (ok_ild_n (f := 1) (pc := 13) rfl rfl rfl (by decide +kernel)) (
  mA (i := 8) (ok_iald (pc := 14) rfl rfl (by decide +kernel)) (
  mA (i := 9) (ok_goto (off := 4) (pc := 15) (tgt := 19) rfl rfl (by decide +kernel) (by decide +kernel)) (
  mA (i := 10) (ok_ic (n := (-1)) (pc := 18) (by decide +kernel) rfl rfl (by decide +kernel)) (
  mA (i := 11) (ok_iret (pc := 19) rfl rfl (by decide +kernel)) (
  mZ))))))))))))
set_option maxRecDepth 20000 in
theorem ok_Ma_termOf : mAll (mOk RX3 cX3_termOf 2 true false (some .int) (mnat p_Ma_termOf)) 0 k_Ma_termOf := mA (i := 0) (ok_ald_n (f := 0) (pc := 0) rfl rfl rfl (by decide +kernel)) (
  mA (i := 1) (ok_ild_n (f := 1) (pc := 1) rfl rfl rfl (by decide +kernel)) (
  mA (i := 2) (ok_callI (pc := 2) (can_V cal_Ma_isPut (by decide +kernel) rfl (by decide +kernel) rfl wd_110 wd_111 wd_112 wd_98 (by decide +kernel)) rfl rfl) (
  mA (i := 3) (ok_ifeq (off := 12) (pc := 5) (tgt := 17) rfl rfl rfl (by decide +kernel) (by decide +kernel)) (
  mA (i := 4) (ok_ald_n (f := 0) (pc := 8) rfl rfl rfl (by decide +kernel)) (
  mA (i := 5) (ok_gP (pc := 9) rfl (by decide +kernel) wd_94 inw_4 rfl rfl (by decide +kernel)) (
  mA (i := 6) (ok_ild_n (f := 1) (pc := 12) rfl rfl rfl (by decide +kernel)) (
  mA (i := 7) (ok_iald (pc := 13) rfl rfl (by decide +kernel)) (
  mA (i := 8) (ok_goto (off := 4) (pc := 14) (tgt := 18) rfl rfl (by decide +kernel) (by decide +kernel)) (
  mA (i := 9) (ok_ic (n := (-1)) (pc := 17) (by decide +kernel) rfl rfl (by decide +kernel)) (
  mA (i := 10) (ok_iret (pc := 18) rfl rfl (by decide +kernel)) (
  mZ)))))))))))
set_option maxRecDepth 20000 in
theorem ok_Ma_isPut : mAll (mOk RX3 cX3_isPut 2 true false (some .boolean) (mnat p_Ma_isPut)) 0 k_Ma_isPut := mA (i := 0) (ok_ild_n (f := 1) (pc := 0) rfl rfl rfl (by decide +kernel)) (
  mA (i := 1) (ok_iflt (off := 25) (pc := 1) (tgt := 26) rfl rfl rfl (by decide +kernel) (by decide +kernel)) (
  mA (i := 2) (ok_ild_n (f := 1) (pc := 4) rfl rfl rfl (by decide +kernel)) (
  mA (i := 3) (ok_bi (n := 6) (pc := 5) (by decide +kernel) rfl rfl (by decide +kernel)) (
  mA (i := 4) (ok_cge (off := 19) (pc := 7) (tgt := 26) rfl rfl rfl (by decide +kernel) (by decide +kernel)) (
  mA (i := 5) (ok_ald_n (f := 0) (pc := 10) rfl rfl rfl (by decide +kernel)) (
  mA (i := 6) (ok_gI (pc := 11) rfl (by decide +kernel) wd_113 inw_4 rfl rfl (by decide +kernel)) (
  mA (i := 7) (ok_ild_n (f := 1) (pc := 14) rfl rfl rfl (by decide +kernel)) (
  mA (i := 8) (ok_shr (pc := 15) rfl rfl (by decide +kernel)) (
  mA (i := 9) (ok_ic (n := 1) (pc := 16) (by decide +kernel) rfl rfl (by decide +kernel)) (
  mA (i := 10) (ok_and (pc := 17) rfl rfl (by decide +kernel)) (
  mA (i := 11) (ok_ic (n := 1) (pc := 18) (by decide +kernel) rfl rfl (by decide +kernel)) (
  mA (i := 12) (ok_cne (off := 7) (pc := 19) (tgt := 26) rfl rfl rfl (by decide +kernel) (by decide +kernel)) (
  mA (i := 13) (ok_ic (n := 1) (pc := 22) (by decide +kernel) rfl rfl (by decide +kernel)) (
  mA (i := 14) (ok_goto (off := 4) (pc := 23) (tgt := 27) rfl rfl (by decide +kernel) (by decide +kernel)) (
  mA (i := 15) (ok_ic (n := 0) (pc := 26) (by decide +kernel) rfl rfl (by decide +kernel)) (
  mA (i := 16) (ok_zret (pc := 27) rfl rfl (by decide +kernel)) (
  mZ)))))))))))))))))
set_option maxRecDepth 20000 in
theorem ok_Ma_allOf : mAll (mOk RX3 cX3_allOf 1 true false (some .int) (mnat p_Ma_allOf)) 0 k_Ma_allOf := mA (i := 0) (ok_ic (n := 1) (pc := 0) (by decide +kernel) rfl rfl (by decide +kernel)) (
  mA (i := 1) (ok_ald_n (f := 0) (pc := 1) rfl rfl rfl (by decide +kernel)) (
  mA (i := 2) (ok_callI (pc := 2) (can_V cal_Cl_size (by decide +kernel) rfl (by decide +kernel) rfl wd_108 wd_32 wd_33 wd_24 (by decide +kernel)) rfl rfl) (
  mA (i := 3) (ok_shl (pc := 5) rfl rfl (by decide +kernel)) (
  mA (i := 4) (ok_ic (n := 1) (pc := 6) (by decide +kernel) rfl rfl (by decide +kernel)) (
  mA (i := 5) (ok_sub (pc := 7) rfl rfl (by decide +kernel)) (
  mA (i := 6) (ok_iret (pc := 8) rfl rfl (by decide +kernel)) (
  mZ)))))))
set_option maxRecDepth 20000 in
theorem ok_Ma_aim : mAll (mOk RX3 cX3_aim 3 true false none (mnat p_Ma_aim)) 0 k_Ma_aim := mA (i := 0) (ok_ald_n (f := 0) (pc := 0) rfl rfl rfl (by decide +kernel)) (
  mA (i := 1) (ok_ild_n (f := 2) (pc := 1) rfl rfl rfl (by decide +kernel)) (
  mA (i := 2) (ok_pZ (pc := 2) rfl (by decide +kernel) wd_114 inw_4 tyX3_ok nmX3 rfl (by decide +kernel) rfl rfl (by decide +kernel)) (
  mA (i := 3) (ok_ald_n (f := 0) (pc := 5) rfl rfl rfl (by decide +kernel)) (
  mA (i := 4) (ok_ic (n := 0) (pc := 6) (by decide +kernel) rfl rfl (by decide +kernel)) (
  mA (i := 5) (ok_pZ (pc := 7) rfl (by decide +kernel) wd_109 inw_4 tyX3_ok nmX3 rfl (by decide +kernel) rfl rfl (by decide +kernel)) (
  mA (i := 6) (ok_ald_n (f := 0) (pc := 10) rfl rfl rfl (by decide +kernel)) (
  mA (i := 7) (ok_ald_n (f := 1) (pc := 11) rfl rfl rfl (by decide +kernel)) (
  mA (i := 8) (ok_callI (pc := 12) (can_V cal_Cl_size (by decide +kernel) rfl (by decide +kernel) rfl wd_108 wd_32 wd_33 wd_24 (by decide +kernel)) rfl rfl) (
  mA (i := 9) (ok_ic (n := 1) (pc := 15) (by decide +kernel) rfl rfl (by decide +kernel)) (
  mA (i := 10) (ok_sub (pc := 16) rfl rfl (by decide +kernel)) (
  mA (i := 11) (ok_pI (pc := 17) rfl (by decide +kernel) wd_107 inw_4 tyX3_ok nmX3 rfl (by decide +kernel) rfl rfl (by decide +kernel)) (
  mA (i := 12) (ok_ald_n (f := 0) (pc := 20) rfl rfl rfl (by decide +kernel)) (
  mA (i := 13) (ok_ic (n := 1) (pc := 21) (by decide +kernel) rfl rfl (by decide +kernel)) (
  mA (i := 14) (ok_pI (pc := 22) rfl (by decide +kernel) wd_106 inw_4 tyX3_ok nmX3 rfl (by decide +kernel) rfl rfl (by decide +kernel)) (
  mA (i := 15) (ok_ald_n (f := 0) (pc := 25) rfl rfl rfl (by decide +kernel)) (
  mA (i := 16) (ok_ic (n := 0) (pc := 26) (by decide +kernel) rfl rfl (by decide +kernel)) (
  mA (i := 17) (ok_pI (pc := 27) rfl (by decide +kernel) wd_104 inw_4 tyX3_ok nmX3 rfl (by decide +kernel) rfl rfl (by decide +kernel)) (
  mA (i := 18) (ok_ald_n (f := 0) (pc := 30) rfl rfl rfl (by decide +kernel)) (
  mA (i := 19) (ok_ic (n := 0) (pc := 31) (by decide +kernel) rfl rfl (by decide +kernel)) (
  mA (i := 20) (ok_pI (pc := 32) rfl (by decide +kernel) wd_113 inw_4 tyX3_ok nmX3 rfl (by decide +kernel) rfl rfl (by decide +kernel)) (
  mA (i := 21) (ok_ald_n (f := 0) (pc := 35) rfl rfl rfl (by decide +kernel)) (
  mA (i := 22) (ok_ic (n := 0) (pc := 36) (by decide +kernel) rfl rfl (by decide +kernel)) (
  mA (i := 23) (ok_pI (pc := 37) rfl (by decide +kernel) wd_115 inw_4 tyX3_ok nmX3 rfl (by decide +kernel) rfl rfl (by decide +kernel)) (
  mA (i := 24) (ok_vret (pc := 40) rfl rfl (by decide +kernel)) (
  mZ)))))))))))))))))))))))))
set_option maxRecDepth 20000 in
theorem ok_Ma_settle_t60 : mAll (mOk RX3 cX3_settle 8 true false none (mnat p_Ma_settle)) 60 [o_shl, o_ic ((-1)), o_xor, o_and, o_goto 66, o_ild 4, o_callV 45 5 4, o_ald 0, o_gI 4 4, o_ald 0, o_gI 4 3, o_clt 73, o_vret, o_ald 0, o_ild 5, o_pI 4 5, o_ald 0, o_ild 6, o_pI 4 6, o_inc 7 (nI 1), o_goto 25, o_vret] := mA (i := 60) (ok_shl (pc := 102) rfl rfl (by decide +kernel)) (
  mA (i := 61) (ok_ic (n := (-1)) (pc := 103) (by decide +kernel) rfl rfl (by decide +kernel)) (
  mA (i := 62) (ok_xor (pc := 104) rfl rfl (by decide +kernel)) (
  mA (i := 63) (ok_and (pc := 105) rfl rfl (by decide +kernel)) (
  mA (i := 64) (ok_goto (off := 5) (pc := 106) (tgt := 111) rfl rfl (by decide +kernel) (by decide +kernel)) (
  mA (i := 65) (ok_ild (pc := 109) rfl rfl (by decide +kernel)) (
  mA (i := 66) (ok_callV (pc := 111) (can_V cal_Ma_settle (by decide +kernel) rfl (by decide +kernel) rfl wd_101 wd_102 wd_103 wd_98 (by decide +kernel)) rfl rfl) (
  mA (i := 67) (ok_ald_n (f := 0) (pc := 114) rfl rfl rfl (by decide +kernel)) (
  mA (i := 68) (ok_gI (pc := 115) rfl (by decide +kernel) wd_104 inw_4 rfl rfl (by decide +kernel)) (
  mA (i := 69) (ok_ald_n (f := 0) (pc := 118) rfl rfl rfl (by decide +kernel)) (
  mA (i := 70) (ok_gI (pc := 119) rfl (by decide +kernel) wd_106 inw_4 rfl rfl (by decide +kernel)) (
  mA (i := 71) (ok_clt (off := 4) (pc := 122) (tgt := 126) rfl rfl rfl (by decide +kernel) (by decide +kernel)) (
  mA (i := 72) (ok_vret (pc := 125) rfl rfl (by decide +kernel)) (
  mA (i := 73) (ok_ald_n (f := 0) (pc := 126) rfl rfl rfl (by decide +kernel)) (
  mA (i := 74) (ok_ild (pc := 127) rfl rfl (by decide +kernel)) (
  mA (i := 75) (ok_pI (pc := 129) rfl (by decide +kernel) wd_113 inw_4 tyX3_ok nmX3 rfl (by decide +kernel) rfl rfl (by decide +kernel)) (
  mA (i := 76) (ok_ald_n (f := 0) (pc := 132) rfl rfl rfl (by decide +kernel)) (
  mA (i := 77) (ok_ild (pc := 133) rfl rfl (by decide +kernel)) (
  mA (i := 78) (ok_pI (pc := 135) rfl (by decide +kernel) wd_115 inw_4 tyX3_ok nmX3 rfl (by decide +kernel) rfl rfl (by decide +kernel)) (
  mA (i := 79) (ok_inc (z := 1) (pc := 138) (by decide +kernel) (by decide +kernel) rfl rfl rfl (by decide +kernel)) (
  mA (i := 80) (ok_goto (off := (-97)) (pc := 141) (tgt := 44) rfl rfl (by decide +kernel) (by decide +kernel)) (
  mA (i := 81) (ok_vret (pc := 144) rfl rfl (by decide +kernel)) (
  mZ))))))))))))))))))))))
set_option maxRecDepth 20000 in
theorem ok_Ma_settle : mAll (mOk RX3 cX3_settle 8 true false none (mnat p_Ma_settle)) 0 k_Ma_settle := mA (i := 0) (ok_ild_n (f := 3) (pc := 0) rfl rfl rfl (by decide +kernel)) (
  mA (i := 1) (ok_ald_n (f := 0) (pc := 1) rfl rfl rfl (by decide +kernel)) (
  mA (i := 2) (ok_gI (pc := 2) rfl (by decide +kernel) wd_107 inw_4 rfl rfl (by decide +kernel)) (
  mA (i := 3) (ok_cle (off := 14) (pc := 5) (tgt := 19) rfl rfl rfl (by decide +kernel) (by decide +kernel)) (
  mA (i := 4) (ok_ald_n (f := 0) (pc := 8) rfl rfl rfl (by decide +kernel)) (
  mA (i := 5) (ok_dup (pc := 9) rfl rfl (by decide +kernel)) (
  mA (i := 6) (ok_gI (pc := 10) rfl (by decide +kernel) wd_104 inw_4 rfl rfl (by decide +kernel)) (
  mA (i := 7) (ok_ic (n := 1) (pc := 13) (by decide +kernel) rfl rfl (by decide +kernel)) (
  mA (i := 8) (ok_add (pc := 14) rfl rfl (by decide +kernel)) (
  mA (i := 9) (ok_pI (pc := 15) rfl (by decide +kernel) wd_104 inw_4 tyX3_ok nmX3 rfl (by decide +kernel) rfl rfl (by decide +kernel)) (
  mA (i := 10) (ok_vret (pc := 18) rfl rfl (by decide +kernel)) (
  mA (i := 11) (ok_ild_n (f := 3) (pc := 19) rfl rfl rfl (by decide +kernel)) (
  mA (i := 12) (ok_iflt (off := 8) (pc := 20) (tgt := 28) rfl rfl rfl (by decide +kernel) (by decide +kernel)) (
  mA (i := 13) (ok_ild_n (f := 3) (pc := 23) rfl rfl rfl (by decide +kernel)) (
  mA (i := 14) (ok_ic (n := 5) (pc := 24) (by decide +kernel) rfl rfl (by decide +kernel)) (
  mA (i := 15) (ok_clt (off := 4) (pc := 25) (tgt := 29) rfl rfl rfl (by decide +kernel) (by decide +kernel)) (
  mA (i := 16) (ok_vret (pc := 28) rfl rfl (by decide +kernel)) (
  mA (i := 17) (ok_ald_n (f := 0) (pc := 29) rfl rfl rfl (by decide +kernel)) (
  mA (i := 18) (ok_gI (pc := 30) rfl (by decide +kernel) wd_113 inw_4 rfl rfl (by decide +kernel)) (
  mA (i := 19) (ok_ist (pc := 33) (by decide +kernel) rfl rfl rfl (by decide +kernel)) (
  mA (i := 20) (ok_ald_n (f := 0) (pc := 35) rfl rfl rfl (by decide +kernel)) (
  mA (i := 21) (ok_gI (pc := 36) rfl (by decide +kernel) wd_115 inw_4 rfl rfl (by decide +kernel)) (
  mA (i := 22) (ok_ist (pc := 39) (by decide +kernel) rfl rfl rfl (by decide +kernel)) (
  mA (i := 23) (ok_ic (n := 0) (pc := 41) (by decide +kernel) rfl rfl (by decide +kernel)) (
  mA (i := 24) (ok_ist (pc := 42) (by decide +kernel) rfl rfl rfl (by decide +kernel)) (
  mA (i := 25) (ok_ild (pc := 44) rfl rfl (by decide +kernel)) (
  mA (i := 26) (ok_ald_n (f := 2) (pc := 46) rfl rfl rfl (by decide +kernel)) (
  mA (i := 27) (ok_callI (pc := 47) (can_V cal_Cl_size (by decide +kernel) rfl (by decide +kernel) rfl wd_108 wd_32 wd_33 wd_24 (by decide +kernel)) rfl rfl) (
  mA (i := 28) (ok_cge (off := 94) (pc := 50) (tgt := 144) rfl rfl rfl (by decide +kernel) (by decide +kernel)) (
  mA (i := 29) (ok_ild (pc := 53) rfl rfl (by decide +kernel)) (
  mA (i := 30) (ok_ild (pc := 55) rfl rfl (by decide +kernel)) (
  mA (i := 31) (ok_shr (pc := 57) rfl rfl (by decide +kernel)) (
  mA (i := 32) (ok_ic (n := 1) (pc := 58) (by decide +kernel) rfl rfl (by decide +kernel)) (
  mA (i := 33) (ok_and (pc := 59) rfl rfl (by decide +kernel)) (
  mA (i := 34) (ok_ic (n := 1) (pc := 60) (by decide +kernel) rfl rfl (by decide +kernel)) (
  mA (i := 35) (ok_cne (off := 65) (pc := 61) (tgt := 126) rfl rfl rfl (by decide +kernel) (by decide +kernel)) (
  mA (i := 36) (ok_ald_n (f := 0) (pc := 64) rfl rfl rfl (by decide +kernel)) (
  mA (i := 37) (ok_ald_n (f := 1) (pc := 65) rfl rfl rfl (by decide +kernel)) (
  mA (i := 38) (ok_ald_n (f := 2) (pc := 66) rfl rfl rfl (by decide +kernel)) (
  mA (i := 39) (ok_ild_n (f := 3) (pc := 67) rfl rfl rfl (by decide +kernel)) (
  mA (i := 40) (ok_ild (pc := 68) rfl rfl (by decide +kernel)) (
  mA (i := 41) (ok_callI (pc := 70) (can_V cal_Ma_fits (by decide +kernel) rfl (by decide +kernel) rfl wd_116 wd_117 wd_118 wd_98 (by decide +kernel)) rfl rfl) (
  mA (i := 42) (ok_ifeq (off := 53) (pc := 73) (tgt := 126) rfl rfl rfl (by decide +kernel) (by decide +kernel)) (
  mA (i := 43) (ok_ald_n (f := 0) (pc := 76) rfl rfl rfl (by decide +kernel)) (
  mA (i := 44) (ok_gP (pc := 77) rfl (by decide +kernel) wd_93 inw_4 rfl rfl (by decide +kernel)) (
  mA (i := 45) (ok_ild_n (f := 3) (pc := 80) rfl rfl rfl (by decide +kernel)) (
  mA (i := 46) (ok_ild (pc := 81) rfl rfl (by decide +kernel)) (
  mA (i := 47) (ok_iast (pc := 83) rfl rfl (by decide +kernel)) (
  mA (i := 48) (ok_ald_n (f := 0) (pc := 84) rfl rfl rfl (by decide +kernel)) (
  mA (i := 49) (ok_ald_n (f := 1) (pc := 85) rfl rfl rfl (by decide +kernel)) (
  mA (i := 50) (ok_ald_n (f := 2) (pc := 86) rfl rfl rfl (by decide +kernel)) (
  mA (i := 51) (ok_ild_n (f := 3) (pc := 87) rfl rfl rfl (by decide +kernel)) (
  mA (i := 52) (ok_ic (n := 1) (pc := 88) (by decide +kernel) rfl rfl (by decide +kernel)) (
  mA (i := 53) (ok_add (pc := 89) rfl rfl (by decide +kernel)) (
  mA (i := 54) (ok_ald_n (f := 0) (pc := 90) rfl rfl rfl (by decide +kernel)) (
  mA (i := 55) (ok_gI (pc := 91) rfl (by decide +kernel) wd_114 inw_4 rfl rfl (by decide +kernel)) (
  mA (i := 56) (ok_ifeq (off := 15) (pc := 94) (tgt := 109) rfl rfl rfl (by decide +kernel) (by decide +kernel)) (
  mA (i := 57) (ok_ild (pc := 97) rfl rfl (by decide +kernel)) (
  mA (i := 58) (ok_ic (n := 1) (pc := 99) (by decide +kernel) rfl rfl (by decide +kernel)) (
  mA (i := 59) (ok_ild (pc := 100) rfl rfl (by decide +kernel)) (
  ok_Ma_settle_t60))))))))))))))))))))))))))))))))))))))))))))))))))))))))))))
set_option maxRecDepth 20000 in
theorem ok_Ma_fits : mAll (mOk RX3 cX3_fits 10 true false (some .boolean) (mnat p_Ma_fits)) 0 k_Ma_fits := mA (i := 0) (ok_ald_n (f := 1) (pc := 0) rfl rfl rfl (by decide +kernel)) (
  mA (i := 1) (ok_ild_n (f := 3) (pc := 1) rfl rfl rfl (by decide +kernel)) (
  mA (i := 2) (ok_ic (n := 1) (pc := 2) (by decide +kernel) rfl rfl (by decide +kernel)) (
  mA (i := 3) (ok_add (pc := 3) rfl rfl (by decide +kernel)) (
  mA (i := 4) (ok_callI (pc := 4) (can_V cal_Cl_start (by decide +kernel) rfl (by decide +kernel) rfl wd_119 wd_42 wd_43 wd_24 (by decide +kernel)) rfl rfl) (
  mA (i := 5) (ok_ist (pc := 7) (by decide +kernel) rfl rfl rfl (by decide +kernel)) (
  mA (i := 6) (ok_ald_n (f := 2) (pc := 9) rfl rfl rfl (by decide +kernel)) (
  mA (i := 7) (ok_ild (pc := 10) rfl rfl (by decide +kernel)) (
  mA (i := 8) (ok_callI (pc := 12) (can_V cal_Cl_start (by decide +kernel) rfl (by decide +kernel) rfl wd_119 wd_42 wd_43 wd_24 (by decide +kernel)) rfl rfl) (
  mA (i := 9) (ok_ist (pc := 15) (by decide +kernel) rfl rfl rfl (by decide +kernel)) (
  mA (i := 10) (ok_ald_n (f := 1) (pc := 17) rfl rfl rfl (by decide +kernel)) (
  mA (i := 11) (ok_ild_n (f := 3) (pc := 18) rfl rfl rfl (by decide +kernel)) (
  mA (i := 12) (ok_callI (pc := 19) (can_V cal_Cl_start (by decide +kernel) rfl (by decide +kernel) rfl wd_119 wd_42 wd_43 wd_24 (by decide +kernel)) rfl rfl) (
  mA (i := 13) (ok_ist (pc := 22) (by decide +kernel) rfl rfl rfl (by decide +kernel)) (
  mA (i := 14) (ok_ild (pc := 24) rfl rfl (by decide +kernel)) (
  mA (i := 15) (ok_ild (pc := 26) rfl rfl (by decide +kernel)) (
  mA (i := 16) (ok_cge (off := 75) (pc := 28) (tgt := 103) rfl rfl rfl (by decide +kernel) (by decide +kernel)) (
  mA (i := 17) (ok_ald_n (f := 1) (pc := 31) rfl rfl rfl (by decide +kernel)) (
  mA (i := 18) (ok_ild (pc := 32) rfl rfl (by decide +kernel)) (
  mA (i := 19) (ok_callI (pc := 34) (can_V cal_Cl_codeAt (by decide +kernel) rfl (by decide +kernel) rfl wd_120 wd_45 wd_46 wd_24 (by decide +kernel)) rfl rfl) (
  mA (i := 20) (ok_ist (pc := 37) (by decide +kernel) rfl rfl rfl (by decide +kernel)) (
  mA (i := 21) (ok_ild (pc := 39) rfl rfl (by decide +kernel)) (
  mA (i := 22) (ok_ic (n := 1) (pc := 41) (by decide +kernel) rfl rfl (by decide +kernel)) (
  mA (i := 23) (ok_add (pc := 42) rfl rfl (by decide +kernel)) (
  mA (i := 24) (ok_ist (pc := 43) (by decide +kernel) rfl rfl rfl (by decide +kernel)) (
  mA (i := 25) (ok_ild (pc := 45) rfl rfl (by decide +kernel)) (
  mA (i := 26) (ok_callI (pc := 47) (can_SN cal_C_isVariable (by decide +kernel) wn_121 wd_34 wd_35 (by decide +kernel)) rfl rfl) (
  mA (i := 27) (ok_ifeq (off := 30) (pc := 50) (tgt := 80) rfl rfl rfl (by decide +kernel) (by decide +kernel)) (
  mA (i := 28) (ok_ald_n (f := 2) (pc := 53) rfl rfl rfl (by decide +kernel)) (
  mA (i := 29) (ok_ild (pc := 54) rfl rfl (by decide +kernel)) (
  mA (i := 30) (ok_callI (pc := 56) (can_V cal_Cl_endOfTerm (by decide +kernel) rfl (by decide +kernel) rfl wd_122 wd_123 wd_124 wd_24 (by decide +kernel)) rfl rfl) (
  mA (i := 31) (ok_ist (pc := 59) (by decide +kernel) rfl rfl rfl (by decide +kernel)) (
  mA (i := 32) (ok_ald_n (f := 0) (pc := 61) rfl rfl rfl (by decide +kernel)) (
  mA (i := 33) (ok_ald_n (f := 2) (pc := 62) rfl rfl rfl (by decide +kernel)) (
  mA (i := 34) (ok_ild (pc := 63) rfl rfl (by decide +kernel)) (
  mA (i := 35) (ok_bi (n := 20) (pc := 65) (by decide +kernel) rfl rfl (by decide +kernel)) (
  mA (i := 36) (ok_sub (pc := 67) rfl rfl (by decide +kernel)) (
  mA (i := 37) (ok_ild (pc := 68) rfl rfl (by decide +kernel)) (
  mA (i := 38) (ok_ild (pc := 70) rfl rfl (by decide +kernel)) (
  mA (i := 39) (ok_callI (pc := 72) (can_V cal_Ma_binds (by decide +kernel) rfl (by decide +kernel) rfl wd_125 wd_126 wd_127 wd_98 (by decide +kernel)) rfl rfl) (
  mA (i := 40) (ok_ifne (off := 18) (pc := 75) (tgt := 93) rfl rfl rfl (by decide +kernel) (by decide +kernel)) (
  mA (i := 41) (ok_ic (n := 0) (pc := 78) (by decide +kernel) rfl rfl (by decide +kernel)) (
  mA (i := 42) (ok_zret (pc := 79) rfl rfl (by decide +kernel)) (
  mA (i := 43) (ok_ild (pc := 80) rfl rfl (by decide +kernel)) (
  mA (i := 44) (ok_ald_n (f := 2) (pc := 82) rfl rfl rfl (by decide +kernel)) (
  mA (i := 45) (ok_ild (pc := 83) rfl rfl (by decide +kernel)) (
  mA (i := 46) (ok_callI (pc := 85) (can_V cal_Cl_codeAt (by decide +kernel) rfl (by decide +kernel) rfl wd_120 wd_45 wd_46 wd_24 (by decide +kernel)) rfl rfl) (
  mA (i := 47) (ok_ceq (off := 5) (pc := 88) (tgt := 93) rfl rfl rfl (by decide +kernel) (by decide +kernel)) (
  mA (i := 48) (ok_ic (n := 0) (pc := 91) (by decide +kernel) rfl rfl (by decide +kernel)) (
  mA (i := 49) (ok_zret (pc := 92) rfl rfl (by decide +kernel)) (
  mA (i := 50) (ok_ild (pc := 93) rfl rfl (by decide +kernel)) (
  mA (i := 51) (ok_ist (pc := 95) (by decide +kernel) rfl rfl rfl (by decide +kernel)) (
  mA (i := 52) (ok_inc (z := 1) (pc := 97) (by decide +kernel) (by decide +kernel) rfl rfl rfl (by decide +kernel)) (
  mA (i := 53) (ok_goto (off := (-76)) (pc := 100) (tgt := 24) rfl rfl (by decide +kernel) (by decide +kernel)) (
  mA (i := 54) (ok_ic (n := 1) (pc := 103) (by decide +kernel) rfl rfl (by decide +kernel)) (
  mA (i := 55) (ok_zret (pc := 104) rfl rfl (by decide +kernel)) (
  mZ))))))))))))))))))))))))))))))))))))))))))))))))))))))))
set_option maxRecDepth 20000 in
theorem ok_Ma_binds_t60 : mAll (mOk RX3 cX3_binds 6 true false (some .boolean) (mnat p_Ma_binds)) 60 [o_ic (nI 1), o_ild 5, o_shl, o_or, o_pI 4 6, o_ic (nI 1), o_zret] := mA (i := 60) (ok_ic (n := 1) (pc := 102) (by decide +kernel) rfl rfl (by decide +kernel)) (
  mA (i := 61) (ok_ild (pc := 103) rfl rfl (by decide +kernel)) (
  mA (i := 62) (ok_shl (pc := 105) rfl rfl (by decide +kernel)) (
  mA (i := 63) (ok_or (pc := 106) rfl rfl (by decide +kernel)) (
  mA (i := 64) (ok_pI (pc := 107) rfl (by decide +kernel) wd_115 inw_4 tyX3_ok nmX3 rfl (by decide +kernel) rfl rfl (by decide +kernel)) (
  mA (i := 65) (ok_ic (n := 1) (pc := 110) (by decide +kernel) rfl rfl (by decide +kernel)) (
  mA (i := 66) (ok_zret (pc := 111) rfl rfl (by decide +kernel)) (
  mZ)))))))
set_option maxRecDepth 20000 in
theorem ok_Ma_binds : mAll (mOk RX3 cX3_binds 6 true false (some .boolean) (mnat p_Ma_binds)) 0 k_Ma_binds := mA (i := 0) (ok_ald_n (f := 0) (pc := 0) rfl rfl rfl (by decide +kernel)) (
  mA (i := 1) (ok_ild_n (f := 2) (pc := 1) rfl rfl rfl (by decide +kernel)) (
  mA (i := 2) (ok_callI (pc := 2) (can_V cal_Ma_isPut (by decide +kernel) rfl (by decide +kernel) rfl wd_110 wd_111 wd_112 wd_98 (by decide +kernel)) rfl rfl) (
  mA (i := 3) (ok_ifeq (off := 19) (pc := 5) (tgt := 24) rfl rfl rfl (by decide +kernel) (by decide +kernel)) (
  mA (i := 4) (ok_ald_n (f := 1) (pc := 8) rfl rfl rfl (by decide +kernel)) (
  mA (i := 5) (ok_ald_n (f := 0) (pc := 9) rfl rfl rfl (by decide +kernel)) (
  mA (i := 6) (ok_gP (pc := 10) rfl (by decide +kernel) wd_94 inw_4 rfl rfl (by decide +kernel)) (
  mA (i := 7) (ok_ild_n (f := 2) (pc := 13) rfl rfl rfl (by decide +kernel)) (
  mA (i := 8) (ok_iald (pc := 14) rfl rfl (by decide +kernel)) (
  mA (i := 9) (ok_ild_n (f := 3) (pc := 15) rfl rfl rfl (by decide +kernel)) (
  mA (i := 10) (ok_ild (pc := 16) rfl rfl (by decide +kernel)) (
  mA (i := 11) (ok_ild_n (f := 3) (pc := 18) rfl rfl rfl (by decide +kernel)) (
  mA (i := 12) (ok_sub (pc := 19) rfl rfl (by decide +kernel)) (
  mA (i := 13) (ok_callI (pc := 20) (can_V cal_Cl_sameRun (by decide +kernel) rfl (by decide +kernel) rfl wd_128 wd_48 wd_49 wd_24 (by decide +kernel)) rfl rfl) (
  mA (i := 14) (ok_zret (pc := 23) rfl rfl (by decide +kernel)) (
  mA (i := 15) (ok_ald_n (f := 1) (pc := 24) rfl rfl rfl (by decide +kernel)) (
  mA (i := 16) (ok_ild_n (f := 3) (pc := 25) rfl rfl rfl (by decide +kernel)) (
  mA (i := 17) (ok_callI (pc := 26) (can_V cal_Cl_codeAt (by decide +kernel) rfl (by decide +kernel) rfl wd_120 wd_45 wd_46 wd_24 (by decide +kernel)) rfl rfl) (
  mA (i := 18) (ok_bi (n := 20) (pc := 29) (by decide +kernel) rfl rfl (by decide +kernel)) (
  mA (i := 19) (ok_sub (pc := 31) rfl rfl (by decide +kernel)) (
  mA (i := 20) (ok_ist (pc := 32) (by decide +kernel) rfl rfl rfl (by decide +kernel)) (
  mA (i := 21) (ok_ild_n (f := 2) (pc := 34) rfl rfl rfl (by decide +kernel)) (
  mA (i := 22) (ok_iflt (off := 34) (pc := 35) (tgt := 69) rfl rfl rfl (by decide +kernel) (by decide +kernel)) (
  mA (i := 23) (ok_ild_n (f := 2) (pc := 38) rfl rfl rfl (by decide +kernel)) (
  mA (i := 24) (ok_bi (n := 6) (pc := 39) (by decide +kernel) rfl rfl (by decide +kernel)) (
  mA (i := 25) (ok_cge (off := 28) (pc := 41) (tgt := 69) rfl rfl rfl (by decide +kernel) (by decide +kernel)) (
  mA (i := 26) (ok_ald_n (f := 0) (pc := 44) rfl rfl rfl (by decide +kernel)) (
  mA (i := 27) (ok_gI (pc := 45) rfl (by decide +kernel) wd_109 inw_4 rfl rfl (by decide +kernel)) (
  mA (i := 28) (ok_ifeq (off := 23) (pc := 48) (tgt := 71) rfl rfl rfl (by decide +kernel) (by decide +kernel)) (
  mA (i := 29) (ok_ild (pc := 51) rfl rfl (by decide +kernel)) (
  mA (i := 30) (ok_iflt (off := 16) (pc := 53) (tgt := 69) rfl rfl rfl (by decide +kernel) (by decide +kernel)) (
  mA (i := 31) (ok_ald_n (f := 0) (pc := 56) rfl rfl rfl (by decide +kernel)) (
  mA (i := 32) (ok_gI (pc := 57) rfl (by decide +kernel) wd_115 inw_4 rfl rfl (by decide +kernel)) (
  mA (i := 33) (ok_ild (pc := 60) rfl rfl (by decide +kernel)) (
  mA (i := 34) (ok_shr (pc := 62) rfl rfl (by decide +kernel)) (
  mA (i := 35) (ok_ic (n := 1) (pc := 63) (by decide +kernel) rfl rfl (by decide +kernel)) (
  mA (i := 36) (ok_and (pc := 64) rfl rfl (by decide +kernel)) (
  mA (i := 37) (ok_ic (n := 1) (pc := 65) (by decide +kernel) rfl rfl (by decide +kernel)) (
  mA (i := 38) (ok_cne (off := 5) (pc := 66) (tgt := 71) rfl rfl rfl (by decide +kernel) (by decide +kernel)) (
  mA (i := 39) (ok_ic (n := 0) (pc := 69) (by decide +kernel) rfl rfl (by decide +kernel)) (
  mA (i := 40) (ok_zret (pc := 70) rfl rfl (by decide +kernel)) (
  mA (i := 41) (ok_ald_n (f := 0) (pc := 71) rfl rfl rfl (by decide +kernel)) (
  mA (i := 42) (ok_gP (pc := 72) rfl (by decide +kernel) wd_94 inw_4 rfl rfl (by decide +kernel)) (
  mA (i := 43) (ok_ild_n (f := 2) (pc := 75) rfl rfl rfl (by decide +kernel)) (
  mA (i := 44) (ok_ild_n (f := 3) (pc := 76) rfl rfl rfl (by decide +kernel)) (
  mA (i := 45) (ok_iast (pc := 77) rfl rfl (by decide +kernel)) (
  mA (i := 46) (ok_ald_n (f := 0) (pc := 78) rfl rfl rfl (by decide +kernel)) (
  mA (i := 47) (ok_dup (pc := 79) rfl rfl (by decide +kernel)) (
  mA (i := 48) (ok_gI (pc := 80) rfl (by decide +kernel) wd_113 inw_4 rfl rfl (by decide +kernel)) (
  mA (i := 49) (ok_ic (n := 1) (pc := 83) (by decide +kernel) rfl rfl (by decide +kernel)) (
  mA (i := 50) (ok_ild_n (f := 2) (pc := 84) rfl rfl rfl (by decide +kernel)) (
  mA (i := 51) (ok_shl (pc := 85) rfl rfl (by decide +kernel)) (
  mA (i := 52) (ok_or (pc := 86) rfl rfl (by decide +kernel)) (
  mA (i := 53) (ok_pI (pc := 87) rfl (by decide +kernel) wd_113 inw_4 tyX3_ok nmX3 rfl (by decide +kernel) rfl rfl (by decide +kernel)) (
  mA (i := 54) (ok_ald_n (f := 0) (pc := 90) rfl rfl rfl (by decide +kernel)) (
  mA (i := 55) (ok_gI (pc := 91) rfl (by decide +kernel) wd_109 inw_4 rfl rfl (by decide +kernel)) (
  mA (i := 56) (ok_ifeq (off := 16) (pc := 94) (tgt := 110) rfl rfl rfl (by decide +kernel) (by decide +kernel)) (
  mA (i := 57) (ok_ald_n (f := 0) (pc := 97) rfl rfl rfl (by decide +kernel)) (
  mA (i := 58) (ok_dup (pc := 98) rfl rfl (by decide +kernel)) (
  mA (i := 59) (ok_gI (pc := 99) rfl (by decide +kernel) wd_115 inw_4 rfl rfl (by decide +kernel)) (
  ok_Ma_binds_t60))))))))))))))))))))))))))))))))))))))))))))))))))))))))))))
set_option maxRecDepth 20000 in
theorem ok_Pa_init : mAll (mOk RX4 cX4_init 1 true true none (mnat p_Pa_init)) 0 k_Pa_init := mA (i := 0) (ok_ald_n (f := 0) (pc := 0) rfl rfl rfl (by decide +kernel)) (
  mA (i := 1) (ok_obj (pc := 1) wd_129 wd_1 wd_objc rfl rfl (by decide +kernel)) (
  mA (i := 2) (ok_ald_n (f := 0) (pc := 4) rfl rfl rfl (by decide +kernel)) (
  mA (i := 3) (ok_bi (n := 40) (pc := 5) (by decide +kernel) rfl rfl (by decide +kernel)) (
  mA (i := 4) (ok_bi (n := 24) (pc := 7) (by decide +kernel) rfl rfl (by decide +kernel)) (
  mA (i := 5) (ok_mna (pc := 9) wd_130 wd_2 rfl rfl (by decide +kernel)) (
  mA (i := 6) (ok_pPF (pc := 13) rfl (by decide +kernel) wd_131 inw_5 tyX4_ok nmX4 rfl rfl rfl (tyX4_ok 0 (by decide +kernel)) rfl rfl rfl (by decide +kernel)) (
  mA (i := 7) (ok_ald_n (f := 0) (pc := 16) rfl rfl rfl (by decide +kernel)) (
  mA (i := 8) (ok_bi (n := 24) (pc := 17) (by decide +kernel) rfl rfl (by decide +kernel)) (
  mA (i := 9) (ok_newi (pc := 19) wd_2 rfl rfl (by decide +kernel)) (
  mA (i := 10) (ok_pPF (pc := 21) rfl (by decide +kernel) wd_132 inw_5 tyX4_ok nmX4 rfl rfl rfl (tyX4_ok 1 (by decide +kernel)) rfl rfl rfl (by decide +kernel)) (
  mA (i := 11) (ok_ald_n (f := 0) (pc := 24) rfl rfl rfl (by decide +kernel)) (
  mA (i := 12) (ok_bi (n := 24) (pc := 25) (by decide +kernel) rfl rfl (by decide +kernel)) (
  mA (i := 13) (ok_newi (pc := 27) wd_2 rfl rfl (by decide +kernel)) (
  mA (i := 14) (ok_pPF (pc := 29) rfl (by decide +kernel) wd_133 inw_5 tyX4_ok nmX4 rfl rfl rfl (tyX4_ok 2 (by decide +kernel)) rfl rfl rfl (by decide +kernel)) (
  mA (i := 15) (ok_ald_n (f := 0) (pc := 32) rfl rfl rfl (by decide +kernel)) (
  mA (i := 16) (ok_bi (n := 40) (pc := 33) (by decide +kernel) rfl rfl (by decide +kernel)) (
  mA (i := 17) (ok_newi (pc := 35) wd_2 rfl rfl (by decide +kernel)) (
  mA (i := 18) (ok_pPF (pc := 37) rfl (by decide +kernel) wd_134 inw_5 tyX4_ok nmX4 rfl rfl rfl (tyX4_ok 3 (by decide +kernel)) rfl rfl rfl (by decide +kernel)) (
  mA (i := 19) (ok_vret (pc := 40) rfl rfl (by decide +kernel)) (
  mZ))))))))))))))))))))
set_option maxRecDepth 20000 in
theorem ok_Pa_unlike : mAll (mOk RX4 cX4_unlike 8 true false (some .int) (mnat p_Pa_unlike)) 0 k_Pa_unlike := mA (i := 0) (ok_ald_n (f := 0) (pc := 0) rfl rfl rfl (by decide +kernel)) (
  mA (i := 1) (ok_ald_n (f := 1) (pc := 1) rfl rfl rfl (by decide +kernel)) (
  mA (i := 2) (ok_ild_n (f := 2) (pc := 2) rfl rfl rfl (by decide +kernel)) (
  mA (i := 3) (ok_ild_n (f := 3) (pc := 3) rfl rfl rfl (by decide +kernel)) (
  mA (i := 4) (ok_callV (pc := 4) (can_V cal_Pa_readValues (by decide +kernel) rfl (by decide +kernel) rfl wd_135 wd_136 wd_137 wd_138 (by decide +kernel)) rfl rfl) (
  mA (i := 5) (ok_ic (n := 0) (pc := 7) (by decide +kernel) rfl rfl (by decide +kernel)) (
  mA (i := 6) (ok_ist (pc := 8) (by decide +kernel) rfl rfl rfl (by decide +kernel)) (
  mA (i := 7) (ok_ic (n := 0) (pc := 10) (by decide +kernel) rfl rfl (by decide +kernel)) (
  mA (i := 8) (ok_ist (pc := 11) (by decide +kernel) rfl rfl rfl (by decide +kernel)) (
  mA (i := 9) (ok_ild (pc := 13) rfl rfl (by decide +kernel)) (
  mA (i := 10) (ok_bi (n := 24) (pc := 15) (by decide +kernel) rfl rfl (by decide +kernel)) (
  mA (i := 11) (ok_cge (off := 66) (pc := 17) (tgt := 83) rfl rfl rfl (by decide +kernel) (by decide +kernel)) (
  mA (i := 12) (ok_ald_n (f := 0) (pc := 20) rfl rfl rfl (by decide +kernel)) (
  mA (i := 13) (ok_gP (pc := 21) rfl (by decide +kernel) wd_133 inw_5 rfl rfl (by decide +kernel)) (
  mA (i := 14) (ok_ild (pc := 24) rfl rfl (by decide +kernel)) (
  mA (i := 15) (ok_iald (pc := 26) rfl rfl (by decide +kernel)) (
  mA (i := 16) (ok_ist (pc := 27) (by decide +kernel) rfl rfl rfl (by decide +kernel)) (
  mA (i := 17) (ok_ic (n := 0) (pc := 29) (by decide +kernel) rfl rfl (by decide +kernel)) (
  mA (i := 18) (ok_ist (pc := 30) (by decide +kernel) rfl rfl rfl (by decide +kernel)) (
  mA (i := 19) (ok_ild (pc := 32) rfl rfl (by decide +kernel)) (
  mA (i := 20) (ok_ic (n := (-1)) (pc := 34) (by decide +kernel) rfl rfl (by decide +kernel)) (
  mA (i := 21) (ok_ceq (off := 42) (pc := 35) (tgt := 77) rfl rfl rfl (by decide +kernel) (by decide +kernel)) (
  mA (i := 22) (ok_ild (pc := 38) rfl rfl (by decide +kernel)) (
  mA (i := 23) (ok_ild (pc := 40) rfl rfl (by decide +kernel)) (
  mA (i := 24) (ok_cge (off := 35) (pc := 42) (tgt := 77) rfl rfl rfl (by decide +kernel) (by decide +kernel)) (
  mA (i := 25) (ok_ald_n (f := 0) (pc := 45) rfl rfl rfl (by decide +kernel)) (
  mA (i := 26) (ok_gP (pc := 46) rfl (by decide +kernel) wd_133 inw_5 rfl rfl (by decide +kernel)) (
  mA (i := 27) (ok_ild (pc := 49) rfl rfl (by decide +kernel)) (
  mA (i := 28) (ok_iald (pc := 51) rfl rfl (by decide +kernel)) (
  mA (i := 29) (ok_ic (n := (-1)) (pc := 52) (by decide +kernel) rfl rfl (by decide +kernel)) (
  mA (i := 30) (ok_ceq (off := 18) (pc := 53) (tgt := 71) rfl rfl rfl (by decide +kernel) (by decide +kernel)) (
  mA (i := 31) (ok_ald_n (f := 0) (pc := 56) rfl rfl rfl (by decide +kernel)) (
  mA (i := 32) (ok_gP (pc := 57) rfl (by decide +kernel) wd_133 inw_5 rfl rfl (by decide +kernel)) (
  mA (i := 33) (ok_ild (pc := 60) rfl rfl (by decide +kernel)) (
  mA (i := 34) (ok_iald (pc := 62) rfl rfl (by decide +kernel)) (
  mA (i := 35) (ok_ild (pc := 63) rfl rfl (by decide +kernel)) (
  mA (i := 36) (ok_ceq (off := 6) (pc := 65) (tgt := 71) rfl rfl rfl (by decide +kernel) (by decide +kernel)) (
  mA (i := 37) (ok_inc (z := 1) (pc := 68) (by decide +kernel) (by decide +kernel) rfl rfl rfl (by decide +kernel)) (
  mA (i := 38) (ok_inc (z := 1) (pc := 71) (by decide +kernel) (by decide +kernel) rfl rfl rfl (by decide +kernel)) (
  mA (i := 39) (ok_goto (off := (-42)) (pc := 74) (tgt := 32) rfl rfl (by decide +kernel) (by decide +kernel)) (
  mA (i := 40) (ok_inc (z := 1) (pc := 77) (by decide +kernel) (by decide +kernel) rfl rfl rfl (by decide +kernel)) (
  mA (i := 41) (ok_goto (off := (-67)) (pc := 80) (tgt := 13) rfl rfl (by decide +kernel) (by decide +kernel)) (
  mA (i := 42) (ok_ild (pc := 83) rfl rfl (by decide +kernel)) (
  mA (i := 43) (ok_iret (pc := 85) rfl rfl (by decide +kernel)) (
  mZ))))))))))))))))))))))))))))))))))))))))))))
set_option maxRecDepth 20000 in
theorem ok_Pa_strongest : mAll (mOk RX4 cX4_strongest 8 true false none (mnat p_Pa_strongest)) 0 k_Pa_strongest := mA (i := 0) (ok_ic (n := 0) (pc := 0) (by decide +kernel) rfl rfl (by decide +kernel)) (
  mA (i := 1) (ok_ist (pc := 1) (by decide +kernel) rfl rfl rfl (by decide +kernel)) (
  mA (i := 2) (ok_ild (pc := 3) rfl rfl (by decide +kernel)) (
  mA (i := 3) (ok_bi (n := 40) (pc := 5) (by decide +kernel) rfl rfl (by decide +kernel)) (
  mA (i := 4) (ok_cge (off := 24) (pc := 7) (tgt := 31) rfl rfl rfl (by decide +kernel) (by decide +kernel)) (
  mA (i := 5) (ok_ald_n (f := 0) (pc := 10) rfl rfl rfl (by decide +kernel)) (
  mA (i := 6) (ok_gP (pc := 11) rfl (by decide +kernel) wd_134 inw_5 rfl rfl (by decide +kernel)) (
  mA (i := 7) (ok_ild (pc := 14) rfl rfl (by decide +kernel)) (
  mA (i := 8) (ok_ald_n (f := 0) (pc := 16) rfl rfl rfl (by decide +kernel)) (
  mA (i := 9) (ok_ald_n (f := 1) (pc := 17) rfl rfl rfl (by decide +kernel)) (
  mA (i := 10) (ok_ild (pc := 18) rfl rfl (by decide +kernel)) (
  mA (i := 11) (ok_ild_n (f := 2) (pc := 20) rfl rfl rfl (by decide +kernel)) (
  mA (i := 12) (ok_callI (pc := 21) (can_V cal_Pa_unlike (by decide +kernel) rfl (by decide +kernel) rfl wd_139 wd_140 wd_141 wd_138 (by decide +kernel)) rfl rfl) (
  mA (i := 13) (ok_iast (pc := 24) rfl rfl (by decide +kernel)) (
  mA (i := 14) (ok_inc (z := 1) (pc := 25) (by decide +kernel) (by decide +kernel) rfl rfl rfl (by decide +kernel)) (
  mA (i := 15) (ok_goto (off := (-25)) (pc := 28) (tgt := 3) rfl rfl (by decide +kernel) (by decide +kernel)) (
  mA (i := 16) (ok_ic (n := 0) (pc := 31) (by decide +kernel) rfl rfl (by decide +kernel)) (
  mA (i := 17) (ok_ist (pc := 32) (by decide +kernel) rfl rfl rfl (by decide +kernel)) (
  mA (i := 18) (ok_ild (pc := 34) rfl rfl (by decide +kernel)) (
  mA (i := 19) (ok_ild (pc := 36) rfl rfl (by decide +kernel)) (
  mA (i := 20) (ok_cge (off := 70) (pc := 38) (tgt := 108) rfl rfl rfl (by decide +kernel) (by decide +kernel)) (
  mA (i := 21) (ok_ild (pc := 41) rfl rfl (by decide +kernel)) (
  mA (i := 22) (ok_ald_n (f := 3) (pc := 43) rfl rfl rfl (by decide +kernel)) (
  mA (i := 23) (ok_len (pc := 44) (by decide +kernel) rfl rfl (by decide +kernel)) (
  mA (i := 24) (ok_cge (off := 63) (pc := 45) (tgt := 108) rfl rfl rfl (by decide +kernel) (by decide +kernel)) (
  mA (i := 25) (ok_ic (n := 0) (pc := 48) (by decide +kernel) rfl rfl (by decide +kernel)) (
  mA (i := 26) (ok_ist (pc := 49) (by decide +kernel) rfl rfl rfl (by decide +kernel)) (
  mA (i := 27) (ok_ic (n := 1) (pc := 51) (by decide +kernel) rfl rfl (by decide +kernel)) (
  mA (i := 28) (ok_ist (pc := 52) (by decide +kernel) rfl rfl rfl (by decide +kernel)) (
  mA (i := 29) (ok_ild (pc := 54) rfl rfl (by decide +kernel)) (
  mA (i := 30) (ok_bi (n := 40) (pc := 56) (by decide +kernel) rfl rfl (by decide +kernel)) (
  mA (i := 31) (ok_cge (off := 30) (pc := 58) (tgt := 88) rfl rfl rfl (by decide +kernel) (by decide +kernel)) (
  mA (i := 32) (ok_ald_n (f := 0) (pc := 61) rfl rfl rfl (by decide +kernel)) (
  mA (i := 33) (ok_gP (pc := 62) rfl (by decide +kernel) wd_134 inw_5 rfl rfl (by decide +kernel)) (
  mA (i := 34) (ok_ild (pc := 65) rfl rfl (by decide +kernel)) (
  mA (i := 35) (ok_iald (pc := 67) rfl rfl (by decide +kernel)) (
  mA (i := 36) (ok_ald_n (f := 0) (pc := 68) rfl rfl rfl (by decide +kernel)) (
  mA (i := 37) (ok_gP (pc := 69) rfl (by decide +kernel) wd_134 inw_5 rfl rfl (by decide +kernel)) (
  mA (i := 38) (ok_ild (pc := 72) rfl rfl (by decide +kernel)) (
  mA (i := 39) (ok_iald (pc := 74) rfl rfl (by decide +kernel)) (
  mA (i := 40) (ok_cle (off := 7) (pc := 75) (tgt := 82) rfl rfl rfl (by decide +kernel) (by decide +kernel)) (
  mA (i := 41) (ok_ild (pc := 78) rfl rfl (by decide +kernel)) (
  mA (i := 42) (ok_ist (pc := 80) (by decide +kernel) rfl rfl rfl (by decide +kernel)) (
  mA (i := 43) (ok_inc (z := 1) (pc := 82) (by decide +kernel) (by decide +kernel) rfl rfl rfl (by decide +kernel)) (
  mA (i := 44) (ok_goto (off := (-31)) (pc := 85) (tgt := 54) rfl rfl (by decide +kernel) (by decide +kernel)) (
  mA (i := 45) (ok_ald_n (f := 3) (pc := 88) rfl rfl rfl (by decide +kernel)) (
  mA (i := 46) (ok_ild (pc := 89) rfl rfl (by decide +kernel)) (
  mA (i := 47) (ok_ild (pc := 91) rfl rfl (by decide +kernel)) (
  mA (i := 48) (ok_iast (pc := 93) rfl rfl (by decide +kernel)) (
  mA (i := 49) (ok_ald_n (f := 0) (pc := 94) rfl rfl rfl (by decide +kernel)) (
  mA (i := 50) (ok_gP (pc := 95) rfl (by decide +kernel) wd_134 inw_5 rfl rfl (by decide +kernel)) (
  mA (i := 51) (ok_ild (pc := 98) rfl rfl (by decide +kernel)) (
  mA (i := 52) (ok_ic (n := (-1)) (pc := 100) (by decide +kernel) rfl rfl (by decide +kernel)) (
  mA (i := 53) (ok_iast (pc := 101) rfl rfl (by decide +kernel)) (
  mA (i := 54) (ok_inc (z := 1) (pc := 102) (by decide +kernel) (by decide +kernel) rfl rfl rfl (by decide +kernel)) (
  mA (i := 55) (ok_goto (off := (-71)) (pc := 105) (tgt := 34) rfl rfl (by decide +kernel) (by decide +kernel)) (
  mA (i := 56) (ok_vret (pc := 108) rfl rfl (by decide +kernel)) (
  mZ)))))))))))))))))))))))))))))))))))))))))))))))))))))))))
set_option maxRecDepth 20000 in
theorem ok_Pa_leftByOrder : mAll (mOk RX4 cX4_leftByOrder 5 true false (some .int) (mnat p_Pa_leftByOrder)) 0 k_Pa_leftByOrder := mA (i := 0) (ok_ald_n (f := 0) (pc := 0) rfl rfl rfl (by decide +kernel)) (
  mA (i := 1) (ok_ald_n (f := 1) (pc := 1) rfl rfl rfl (by decide +kernel)) (
  mA (i := 2) (ok_callV (pc := 2) (can_V cal_Pa_leaveAll (by decide +kernel) rfl (by decide +kernel) rfl wd_142 wd_143 wd_144 wd_138 (by decide +kernel)) rfl rfl) (
  mA (i := 3) (ok_ic (n := 0) (pc := 5) (by decide +kernel) rfl rfl (by decide +kernel)) (
  mA (i := 4) (ok_ist_n (f := 3) (pc := 6) rfl (by decide +kernel) rfl rfl rfl (by decide +kernel)) (
  mA (i := 5) (ok_ild_n (f := 3) (pc := 7) rfl rfl rfl (by decide +kernel)) (
  mA (i := 6) (ok_ald_n (f := 1) (pc := 8) rfl rfl rfl (by decide +kernel)) (
  mA (i := 7) (ok_callI (pc := 9) (can_V cal_St_laid (by decide +kernel) rfl (by decide +kernel) rfl wd_145 wd_146 wd_147 wd_80 (by decide +kernel)) rfl rfl) (
  mA (i := 8) (ok_cge (off := 30) (pc := 12) (tgt := 42) rfl rfl rfl (by decide +kernel) (by decide +kernel)) (
  mA (i := 9) (ok_ald_n (f := 1) (pc := 15) rfl rfl rfl (by decide +kernel)) (
  mA (i := 10) (ok_ild_n (f := 3) (pc := 16) rfl rfl rfl (by decide +kernel)) (
  mA (i := 11) (ok_callI (pc := 17) (can_V cal_St_featureAt (by decide +kernel) rfl (by decide +kernel) rfl wd_148 wd_149 wd_150 wd_80 (by decide +kernel)) rfl rfl) (
  mA (i := 12) (ok_ist (pc := 20) (by decide +kernel) rfl rfl rfl (by decide +kernel)) (
  mA (i := 13) (ok_ald_n (f := 0) (pc := 22) rfl rfl rfl (by decide +kernel)) (
  mA (i := 14) (ok_ald_n (f := 1) (pc := 23) rfl rfl rfl (by decide +kernel)) (
  mA (i := 15) (ok_ild (pc := 24) rfl rfl (by decide +kernel)) (
  mA (i := 16) (ok_ild_n (f := 2) (pc := 26) rfl rfl rfl (by decide +kernel)) (
  mA (i := 17) (ok_callV (pc := 27) (can_V cal_Pa_compare (by decide +kernel) rfl (by decide +kernel) rfl wd_151 wd_152 wd_153 wd_138 (by decide +kernel)) rfl rfl) (
  mA (i := 18) (ok_ald_n (f := 0) (pc := 30) rfl rfl rfl (by decide +kernel)) (
  mA (i := 19) (ok_ild (pc := 31) rfl rfl (by decide +kernel)) (
  mA (i := 20) (ok_callV (pc := 33) (can_V cal_Pa_narrow (by decide +kernel) rfl (by decide +kernel) rfl wd_154 wd_155 wd_156 wd_138 (by decide +kernel)) rfl rfl) (
  mA (i := 21) (ok_inc (z := 1) (pc := 36) (by decide +kernel) (by decide +kernel) rfl rfl rfl (by decide +kernel)) (
  mA (i := 22) (ok_goto (off := (-32)) (pc := 39) (tgt := 7) rfl rfl (by decide +kernel) (by decide +kernel)) (
  mA (i := 23) (ok_ald_n (f := 0) (pc := 42) rfl rfl rfl (by decide +kernel)) (
  mA (i := 24) (ok_ic (n := (-1)) (pc := 43) (by decide +kernel) rfl rfl (by decide +kernel)) (
  mA (i := 25) (ok_callI (pc := 44) (can_V cal_Pa_leftWith (by decide +kernel) rfl (by decide +kernel) rfl wd_157 wd_158 wd_159 wd_138 (by decide +kernel)) rfl rfl) (
  mA (i := 26) (ok_iret (pc := 47) rfl rfl (by decide +kernel)) (
  mZ)))))))))))))))))))))))))))
set_option maxRecDepth 20000 in
theorem ok_Pa_closest : mAll (mOk RX4 cX4_closest 10 true false (some .int) (mnat p_Pa_closest)) 0 k_Pa_closest := mA (i := 0) (ok_ald_n (f := 0) (pc := 0) rfl rfl rfl (by decide +kernel)) (
  mA (i := 1) (ok_ald_n (f := 1) (pc := 1) rfl rfl rfl (by decide +kernel)) (
  mA (i := 2) (ok_ild_n (f := 2) (pc := 2) rfl rfl rfl (by decide +kernel)) (
  mA (i := 3) (ok_callV (pc := 3) (can_V cal_Pa_compareAll (by decide +kernel) rfl (by decide +kernel) rfl wd_160 wd_161 wd_162 wd_138 (by decide +kernel)) rfl rfl) (
  mA (i := 4) (ok_ald_n (f := 0) (pc := 6) rfl rfl rfl (by decide +kernel)) (
  mA (i := 5) (ok_ald_n (f := 1) (pc := 7) rfl rfl rfl (by decide +kernel)) (
  mA (i := 6) (ok_callV (pc := 8) (can_V cal_Pa_leaveAll (by decide +kernel) rfl (by decide +kernel) rfl wd_142 wd_143 wd_144 wd_138 (by decide +kernel)) rfl rfl) (
  mA (i := 7) (ok_ic (n := 0) (pc := 11) (by decide +kernel) rfl rfl (by decide +kernel)) (
  mA (i := 8) (ok_ist (pc := 12) (by decide +kernel) rfl rfl rfl (by decide +kernel)) (
  mA (i := 9) (ok_ild (pc := 14) rfl rfl (by decide +kernel)) (
  mA (i := 10) (ok_ild (pc := 16) rfl rfl (by decide +kernel)) (
  mA (i := 11) (ok_cge (off := 85) (pc := 18) (tgt := 103) rfl rfl rfl (by decide +kernel) (by decide +kernel)) (
  mA (i := 12) (ok_ild (pc := 21) rfl rfl (by decide +kernel)) (
  mA (i := 13) (ok_ald_n (f := 3) (pc := 23) rfl rfl rfl (by decide +kernel)) (
  mA (i := 14) (ok_len (pc := 24) (by decide +kernel) rfl rfl (by decide +kernel)) (
  mA (i := 15) (ok_cge (off := 78) (pc := 25) (tgt := 103) rfl rfl rfl (by decide +kernel) (by decide +kernel)) (
  mA (i := 16) (ok_ic (n := (-1)) (pc := 28) (by decide +kernel) rfl rfl (by decide +kernel)) (
  mA (i := 17) (ok_ist (pc := 29) (by decide +kernel) rfl rfl rfl (by decide +kernel)) (
  mA (i := 18) (ok_ldc (pc := 31) wd_163 rfl rfl (by decide +kernel)) (
  mA (i := 19) (ok_ist (pc := 33) (by decide +kernel) rfl rfl rfl (by decide +kernel)) (
  mA (i := 20) (ok_ic (n := 0) (pc := 35) (by decide +kernel) rfl rfl (by decide +kernel)) (
  mA (i := 21) (ok_ist (pc := 36) (by decide +kernel) rfl rfl rfl (by decide +kernel)) (
  mA (i := 22) (ok_ild (pc := 38) rfl rfl (by decide +kernel)) (
  mA (i := 23) (ok_bi (n := 40) (pc := 40) (by decide +kernel) rfl rfl (by decide +kernel)) (
  mA (i := 24) (ok_cge (off := 43) (pc := 42) (tgt := 85) rfl rfl rfl (by decide +kernel) (by decide +kernel)) (
  mA (i := 25) (ok_ald_n (f := 0) (pc := 45) rfl rfl rfl (by decide +kernel)) (
  mA (i := 26) (ok_ild (pc := 46) rfl rfl (by decide +kernel)) (
  mA (i := 27) (ok_callI (pc := 48) (can_V cal_Pa_leftWith (by decide +kernel) rfl (by decide +kernel) rfl wd_157 wd_158 wd_159 wd_138 (by decide +kernel)) rfl rfl) (
  mA (i := 28) (ok_ist (pc := 51) (by decide +kernel) rfl rfl rfl (by decide +kernel)) (
  mA (i := 29) (ok_ild (pc := 53) rfl rfl (by decide +kernel)) (
  mA (i := 30) (ok_ild (pc := 55) rfl rfl (by decide +kernel)) (
  mA (i := 31) (ok_cge (off := 22) (pc := 57) (tgt := 79) rfl rfl rfl (by decide +kernel) (by decide +kernel)) (
  mA (i := 32) (ok_ald_n (f := 3) (pc := 60) rfl rfl rfl (by decide +kernel)) (
  mA (i := 33) (ok_ild (pc := 61) rfl rfl (by decide +kernel)) (
  mA (i := 34) (ok_ild (pc := 63) rfl rfl (by decide +kernel)) (
  mA (i := 35) (ok_callI (pc := 65) (can_S cal_Pa_isAmong (by decide +kernel) wd_165 wd_164 wd_138 (by decide +kernel)) rfl rfl) (
  mA (i := 36) (ok_ifne (off := 11) (pc := 68) (tgt := 79) rfl rfl rfl (by decide +kernel) (by decide +kernel)) (
  mA (i := 37) (ok_ild (pc := 71) rfl rfl (by decide +kernel)) (
  mA (i := 38) (ok_ist (pc := 73) (by decide +kernel) rfl rfl rfl (by decide +kernel)) (
  mA (i := 39) (ok_ild (pc := 75) rfl rfl (by decide +kernel)) (
  mA (i := 40) (ok_ist (pc := 77) (by decide +kernel) rfl rfl rfl (by decide +kernel)) (
  mA (i := 41) (ok_inc (z := 1) (pc := 79) (by decide +kernel) (by decide +kernel) rfl rfl rfl (by decide +kernel)) (
  mA (i := 42) (ok_goto (off := (-44)) (pc := 82) (tgt := 38) rfl rfl (by decide +kernel) (by decide +kernel)) (
  mA (i := 43) (ok_ald_n (f := 3) (pc := 85) rfl rfl rfl (by decide +kernel)) (
  mA (i := 44) (ok_ild (pc := 86) rfl rfl (by decide +kernel)) (
  mA (i := 45) (ok_ild (pc := 88) rfl rfl (by decide +kernel)) (
  mA (i := 46) (ok_iast (pc := 90) rfl rfl (by decide +kernel)) (
  mA (i := 47) (ok_ald_n (f := 0) (pc := 91) rfl rfl rfl (by decide +kernel)) (
  mA (i := 48) (ok_ild (pc := 92) rfl rfl (by decide +kernel)) (
  mA (i := 49) (ok_callV (pc := 94) (can_V cal_Pa_narrow (by decide +kernel) rfl (by decide +kernel) rfl wd_154 wd_155 wd_156 wd_138 (by decide +kernel)) rfl rfl) (
  mA (i := 50) (ok_inc (z := 1) (pc := 97) (by decide +kernel) (by decide +kernel) rfl rfl rfl (by decide +kernel)) (
  mA (i := 51) (ok_goto (off := (-86)) (pc := 100) (tgt := 14) rfl rfl (by decide +kernel) (by decide +kernel)) (
  mA (i := 52) (ok_ald_n (f := 0) (pc := 103) rfl rfl rfl (by decide +kernel)) (
  mA (i := 53) (ok_ic (n := (-1)) (pc := 104) (by decide +kernel) rfl rfl (by decide +kernel)) (
  mA (i := 54) (ok_callI (pc := 105) (can_V cal_Pa_leftWith (by decide +kernel) rfl (by decide +kernel) rfl wd_157 wd_158 wd_159 wd_138 (by decide +kernel)) rfl rfl) (
  mA (i := 55) (ok_iret (pc := 108) rfl rfl (by decide +kernel)) (
  mZ))))))))))))))))))))))))))))))))))))))))))))))))))))))))
set_option maxRecDepth 20000 in
theorem ok_Pa_bestTwo : mAll (mOk RX4 cX4_bestTwo 6 true false none (mnat p_Pa_bestTwo)) 0 k_Pa_bestTwo := mA (i := 0) (ok_ald_n (f := 0) (pc := 0) rfl rfl rfl (by decide +kernel)) (
  mA (i := 1) (ok_ald_n (f := 1) (pc := 1) rfl rfl rfl (by decide +kernel)) (
  mA (i := 2) (ok_ild_n (f := 2) (pc := 2) rfl rfl rfl (by decide +kernel)) (
  mA (i := 3) (ok_callV (pc := 3) (can_V cal_Pa_compareAll (by decide +kernel) rfl (by decide +kernel) rfl wd_160 wd_161 wd_162 wd_138 (by decide +kernel)) rfl rfl) (
  mA (i := 4) (ok_ald_n (f := 0) (pc := 6) rfl rfl rfl (by decide +kernel)) (
  mA (i := 5) (ok_ldc (pc := 7) wd_163 rfl rfl (by decide +kernel)) (
  mA (i := 6) (ok_pI (pc := 9) rfl (by decide +kernel) wd_166 inw_5 tyX4_ok nmX4 rfl (by decide +kernel) rfl rfl (by decide +kernel)) (
  mA (i := 7) (ok_ic (n := 0) (pc := 12) (by decide +kernel) rfl rfl (by decide +kernel)) (
  mA (i := 8) (ok_ist_n (f := 3) (pc := 13) rfl (by decide +kernel) rfl rfl rfl (by decide +kernel)) (
  mA (i := 9) (ok_ild_n (f := 3) (pc := 14) rfl rfl rfl (by decide +kernel)) (
  mA (i := 10) (ok_bi (n := 40) (pc := 15) (by decide +kernel) rfl rfl (by decide +kernel)) (
  mA (i := 11) (ok_cge (off := 71) (pc := 17) (tgt := 88) rfl rfl rfl (by decide +kernel) (by decide +kernel)) (
  mA (i := 12) (ok_ald_n (f := 0) (pc := 20) rfl rfl rfl (by decide +kernel)) (
  mA (i := 13) (ok_ald_n (f := 1) (pc := 21) rfl rfl rfl (by decide +kernel)) (
  mA (i := 14) (ok_callV (pc := 22) (can_V cal_Pa_leaveAll (by decide +kernel) rfl (by decide +kernel) rfl wd_142 wd_143 wd_144 wd_138 (by decide +kernel)) rfl rfl) (
  mA (i := 15) (ok_ald_n (f := 0) (pc := 25) rfl rfl rfl (by decide +kernel)) (
  mA (i := 16) (ok_ild_n (f := 3) (pc := 26) rfl rfl rfl (by decide +kernel)) (
  mA (i := 17) (ok_callV (pc := 27) (can_V cal_Pa_narrow (by decide +kernel) rfl (by decide +kernel) rfl wd_154 wd_155 wd_156 wd_138 (by decide +kernel)) rfl rfl) (
  mA (i := 18) (ok_ild_n (f := 3) (pc := 30) rfl rfl rfl (by decide +kernel)) (
  mA (i := 19) (ok_ic (n := 1) (pc := 31) (by decide +kernel) rfl rfl (by decide +kernel)) (
  mA (i := 20) (ok_add (pc := 32) rfl rfl (by decide +kernel)) (
  mA (i := 21) (ok_ist (pc := 33) (by decide +kernel) rfl rfl rfl (by decide +kernel)) (
  mA (i := 22) (ok_ild (pc := 35) rfl rfl (by decide +kernel)) (
  mA (i := 23) (ok_bi (n := 40) (pc := 37) (by decide +kernel) rfl rfl (by decide +kernel)) (
  mA (i := 24) (ok_cge (off := 43) (pc := 39) (tgt := 82) rfl rfl rfl (by decide +kernel) (by decide +kernel)) (
  mA (i := 25) (ok_ald_n (f := 0) (pc := 42) rfl rfl rfl (by decide +kernel)) (
  mA (i := 26) (ok_ild (pc := 43) rfl rfl (by decide +kernel)) (
  mA (i := 27) (ok_callI (pc := 45) (can_V cal_Pa_leftWith (by decide +kernel) rfl (by decide +kernel) rfl wd_157 wd_158 wd_159 wd_138 (by decide +kernel)) rfl rfl) (
  mA (i := 28) (ok_ist (pc := 48) (by decide +kernel) rfl rfl rfl (by decide +kernel)) (
  mA (i := 29) (ok_ild (pc := 50) rfl rfl (by decide +kernel)) (
  mA (i := 30) (ok_ald_n (f := 0) (pc := 52) rfl rfl rfl (by decide +kernel)) (
  mA (i := 31) (ok_gI (pc := 53) rfl (by decide +kernel) wd_166 inw_5 rfl rfl (by decide +kernel)) (
  mA (i := 32) (ok_cge (off := 20) (pc := 56) (tgt := 76) rfl rfl rfl (by decide +kernel) (by decide +kernel)) (
  mA (i := 33) (ok_ald_n (f := 0) (pc := 59) rfl rfl rfl (by decide +kernel)) (
  mA (i := 34) (ok_ild (pc := 60) rfl rfl (by decide +kernel)) (
  mA (i := 35) (ok_pI (pc := 62) rfl (by decide +kernel) wd_166 inw_5 tyX4_ok nmX4 rfl (by decide +kernel) rfl rfl (by decide +kernel)) (
  mA (i := 36) (ok_ald_n (f := 0) (pc := 65) rfl rfl rfl (by decide +kernel)) (
  mA (i := 37) (ok_ild_n (f := 3) (pc := 66) rfl rfl rfl (by decide +kernel)) (
  mA (i := 38) (ok_pI (pc := 67) rfl (by decide +kernel) wd_167 inw_5 tyX4_ok nmX4 rfl (by decide +kernel) rfl rfl (by decide +kernel)) (
  mA (i := 39) (ok_ald_n (f := 0) (pc := 70) rfl rfl rfl (by decide +kernel)) (
  mA (i := 40) (ok_ild (pc := 71) rfl rfl (by decide +kernel)) (
  mA (i := 41) (ok_pI (pc := 73) rfl (by decide +kernel) wd_168 inw_5 tyX4_ok nmX4 rfl (by decide +kernel) rfl rfl (by decide +kernel)) (
  mA (i := 42) (ok_inc (z := 1) (pc := 76) (by decide +kernel) (by decide +kernel) rfl rfl rfl (by decide +kernel)) (
  mA (i := 43) (ok_goto (off := (-44)) (pc := 79) (tgt := 35) rfl rfl (by decide +kernel) (by decide +kernel)) (
  mA (i := 44) (ok_inc (z := 1) (pc := 82) (by decide +kernel) (by decide +kernel) rfl rfl rfl (by decide +kernel)) (
  mA (i := 45) (ok_goto (off := (-71)) (pc := 85) (tgt := 14) rfl rfl (by decide +kernel) (by decide +kernel)) (
  mA (i := 46) (ok_vret (pc := 88) rfl rfl (by decide +kernel)) (
  mZ)))))))))))))))))))))))))))))))))))))))))))))))
set_option maxRecDepth 20000 in
theorem ok_Pa_leftByTwo : mAll (mOk RX4 cX4_leftByTwo 1 true false (some .int) (mnat p_Pa_leftByTwo)) 0 k_Pa_leftByTwo := mA (i := 0) (ok_ald_n (f := 0) (pc := 0) rfl rfl rfl (by decide +kernel)) (
  mA (i := 1) (ok_gI (pc := 1) rfl (by decide +kernel) wd_166 inw_5 rfl rfl (by decide +kernel)) (
  mA (i := 2) (ok_iret (pc := 4) rfl rfl (by decide +kernel)) (
  mZ)))
set_option maxRecDepth 20000 in
theorem ok_Pa_lowerOfTwo : mAll (mOk RX4 cX4_lowerOfTwo 1 true false (some .int) (mnat p_Pa_lowerOfTwo)) 0 k_Pa_lowerOfTwo := mA (i := 0) (ok_ald_n (f := 0) (pc := 0) rfl rfl rfl (by decide +kernel)) (
  mA (i := 1) (ok_gI (pc := 1) rfl (by decide +kernel) wd_167 inw_5 rfl rfl (by decide +kernel)) (
  mA (i := 2) (ok_iret (pc := 4) rfl rfl (by decide +kernel)) (
  mZ)))
set_option maxRecDepth 20000 in
theorem ok_Pa_higherOfTwo : mAll (mOk RX4 cX4_higherOfTwo 1 true false (some .int) (mnat p_Pa_higherOfTwo)) 0 k_Pa_higherOfTwo := mA (i := 0) (ok_ald_n (f := 0) (pc := 0) rfl rfl rfl (by decide +kernel)) (
  mA (i := 1) (ok_gI (pc := 1) rfl (by decide +kernel) wd_168 inw_5 rfl rfl (by decide +kernel)) (
  mA (i := 2) (ok_iret (pc := 4) rfl rfl (by decide +kernel)) (
  mZ)))
set_option maxRecDepth 20000 in
theorem ok_Pa_isAmong : mAll (mOk RX4 cX4_isAmong 4 true false (some .boolean) (mnat p_Pa_isAmong)) 0 k_Pa_isAmong := mA (i := 0) (ok_ic (n := 0) (pc := 0) (by decide +kernel) rfl rfl (by decide +kernel)) (
  mA (i := 1) (ok_ist_n (f := 3) (pc := 1) rfl (by decide +kernel) rfl rfl rfl (by decide +kernel)) (
  mA (i := 2) (ok_ild_n (f := 3) (pc := 2) rfl rfl rfl (by decide +kernel)) (
  mA (i := 3) (ok_ild_n (f := 1) (pc := 3) rfl rfl rfl (by decide +kernel)) (
  mA (i := 4) (ok_cge (off := 24) (pc := 4) (tgt := 28) rfl rfl rfl (by decide +kernel) (by decide +kernel)) (
  mA (i := 5) (ok_ild_n (f := 3) (pc := 7) rfl rfl rfl (by decide +kernel)) (
  mA (i := 6) (ok_ald_n (f := 0) (pc := 8) rfl rfl rfl (by decide +kernel)) (
  mA (i := 7) (ok_len (pc := 9) (by decide +kernel) rfl rfl (by decide +kernel)) (
  mA (i := 8) (ok_cge (off := 18) (pc := 10) (tgt := 28) rfl rfl rfl (by decide +kernel) (by decide +kernel)) (
  mA (i := 9) (ok_ald_n (f := 0) (pc := 13) rfl rfl rfl (by decide +kernel)) (
  mA (i := 10) (ok_ild_n (f := 3) (pc := 14) rfl rfl rfl (by decide +kernel)) (
  mA (i := 11) (ok_iald (pc := 15) rfl rfl (by decide +kernel)) (
  mA (i := 12) (ok_ild_n (f := 2) (pc := 16) rfl rfl rfl (by decide +kernel)) (
  mA (i := 13) (ok_cne (off := 5) (pc := 17) (tgt := 22) rfl rfl rfl (by decide +kernel) (by decide +kernel)) (
  mA (i := 14) (ok_ic (n := 1) (pc := 20) (by decide +kernel) rfl rfl (by decide +kernel)) (
  mA (i := 15) (ok_zret (pc := 21) rfl rfl (by decide +kernel)) (
  mA (i := 16) (ok_inc (z := 1) (pc := 22) (by decide +kernel) (by decide +kernel) rfl rfl rfl (by decide +kernel)) (
  mA (i := 17) (ok_goto (off := (-23)) (pc := 25) (tgt := 2) rfl rfl (by decide +kernel) (by decide +kernel)) (
  mA (i := 18) (ok_ic (n := 0) (pc := 28) (by decide +kernel) rfl rfl (by decide +kernel)) (
  mA (i := 19) (ok_zret (pc := 29) rfl rfl (by decide +kernel)) (
  mZ))))))))))))))))))))
set_option maxRecDepth 20000 in
theorem ok_Pa_compareAll : mAll (mOk RX4 cX4_compareAll 4 true false none (mnat p_Pa_compareAll)) 0 k_Pa_compareAll := mA (i := 0) (ok_ic (n := 0) (pc := 0) (by decide +kernel) rfl rfl (by decide +kernel)) (
  mA (i := 1) (ok_ist_n (f := 3) (pc := 1) rfl (by decide +kernel) rfl rfl rfl (by decide +kernel)) (
  mA (i := 2) (ok_ild_n (f := 3) (pc := 2) rfl rfl rfl (by decide +kernel)) (
  mA (i := 3) (ok_bi (n := 40) (pc := 3) (by decide +kernel) rfl rfl (by decide +kernel)) (
  mA (i := 4) (ok_cge (off := 16) (pc := 5) (tgt := 21) rfl rfl rfl (by decide +kernel) (by decide +kernel)) (
  mA (i := 5) (ok_ald_n (f := 0) (pc := 8) rfl rfl rfl (by decide +kernel)) (
  mA (i := 6) (ok_ald_n (f := 1) (pc := 9) rfl rfl rfl (by decide +kernel)) (
  mA (i := 7) (ok_ild_n (f := 3) (pc := 10) rfl rfl rfl (by decide +kernel)) (
  mA (i := 8) (ok_ild_n (f := 2) (pc := 11) rfl rfl rfl (by decide +kernel)) (
  mA (i := 9) (ok_callV (pc := 12) (can_V cal_Pa_compare (by decide +kernel) rfl (by decide +kernel) rfl wd_151 wd_152 wd_153 wd_138 (by decide +kernel)) rfl rfl) (
  mA (i := 10) (ok_inc (z := 1) (pc := 15) (by decide +kernel) (by decide +kernel) rfl rfl rfl (by decide +kernel)) (
  mA (i := 11) (ok_goto (off := (-16)) (pc := 18) (tgt := 2) rfl rfl (by decide +kernel) (by decide +kernel)) (
  mA (i := 12) (ok_vret (pc := 21) rfl rfl (by decide +kernel)) (
  mZ)))))))))))))
set_option maxRecDepth 20000 in
theorem ok_Pa_compare : mAll (mOk RX4 cX4_compare 9 true false none (mnat p_Pa_compare)) 0 k_Pa_compare := mA (i := 0) (ok_ild_n (f := 2) (pc := 0) rfl rfl rfl (by decide +kernel)) (
  mA (i := 1) (ok_callI (pc := 1) (can_SN cal_C_isFeature (by decide +kernel) wn_169 wd_37 wd_35 (by decide +kernel)) rfl rfl) (
  mA (i := 2) (ok_ifne (off := 4) (pc := 4) (tgt := 8) rfl rfl rfl (by decide +kernel) (by decide +kernel)) (
  mA (i := 3) (ok_vret (pc := 7) rfl rfl (by decide +kernel)) (
  mA (i := 4) (ok_ald_n (f := 0) (pc := 8) rfl rfl rfl (by decide +kernel)) (
  mA (i := 5) (ok_ald_n (f := 1) (pc := 9) rfl rfl rfl (by decide +kernel)) (
  mA (i := 6) (ok_ild_n (f := 2) (pc := 10) rfl rfl rfl (by decide +kernel)) (
  mA (i := 7) (ok_ild_n (f := 3) (pc := 11) rfl rfl rfl (by decide +kernel)) (
  mA (i := 8) (ok_callV (pc := 12) (can_V cal_Pa_readValues (by decide +kernel) rfl (by decide +kernel) rfl wd_135 wd_136 wd_137 wd_138 (by decide +kernel)) rfl rfl) (
  mA (i := 9) (ok_ald_n (f := 0) (pc := 15) rfl rfl rfl (by decide +kernel)) (
  mA (i := 10) (ok_gP (pc := 16) rfl (by decide +kernel) wd_131 inw_5 rfl rfl (by decide +kernel)) (
  mA (i := 11) (ok_ild_n (f := 2) (pc := 19) rfl rfl rfl (by decide +kernel)) (
  mA (i := 12) (ok_iiald (pc := 20) rfl rfl (by decide +kernel)) (
  mA (i := 13) (ok_ast (pc := 21) (by decide +kernel) rfl rfl rfl (by decide +kernel)) (
  mA (i := 14) (ok_ic (n := 0) (pc := 23) (by decide +kernel) rfl rfl (by decide +kernel)) (
  mA (i := 15) (ok_ist (pc := 24) (by decide +kernel) rfl rfl rfl (by decide +kernel)) (
  mA (i := 16) (ok_ild (pc := 26) rfl rfl (by decide +kernel)) (
  mA (i := 17) (ok_bi (n := 24) (pc := 28) (by decide +kernel) rfl rfl (by decide +kernel)) (
  mA (i := 18) (ok_cge (off := 79) (pc := 30) (tgt := 109) rfl rfl rfl (by decide +kernel) (by decide +kernel)) (
  mA (i := 19) (ok_ild (pc := 33) rfl rfl (by decide +kernel)) (
  mA (i := 20) (ok_ald (pc := 35) rfl rfl (by decide +kernel)) (
  mA (i := 21) (ok_len (pc := 37) (by decide +kernel) rfl rfl (by decide +kernel)) (
  mA (i := 22) (ok_cge (off := 71) (pc := 38) (tgt := 109) rfl rfl rfl (by decide +kernel) (by decide +kernel)) (
  mA (i := 23) (ok_ald_n (f := 0) (pc := 41) rfl rfl rfl (by decide +kernel)) (
  mA (i := 24) (ok_gP (pc := 42) rfl (by decide +kernel) wd_133 inw_5 rfl rfl (by decide +kernel)) (
  mA (i := 25) (ok_ild (pc := 45) rfl rfl (by decide +kernel)) (
  mA (i := 26) (ok_iald (pc := 47) rfl rfl (by decide +kernel)) (
  mA (i := 27) (ok_ist (pc := 48) (by decide +kernel) rfl rfl rfl (by decide +kernel)) (
  mA (i := 28) (ok_ic (n := 0) (pc := 50) (by decide +kernel) rfl rfl (by decide +kernel)) (
  mA (i := 29) (ok_ist (pc := 51) (by decide +kernel) rfl rfl rfl (by decide +kernel)) (
  mA (i := 30) (ok_ic (n := 0) (pc := 53) (by decide +kernel) rfl rfl (by decide +kernel)) (
  mA (i := 31) (ok_ist (pc := 54) (by decide +kernel) rfl rfl rfl (by decide +kernel)) (
  mA (i := 32) (ok_ild (pc := 56) rfl rfl (by decide +kernel)) (
  mA (i := 33) (ok_ic (n := (-1)) (pc := 58) (by decide +kernel) rfl rfl (by decide +kernel)) (
  mA (i := 34) (ok_ceq (off := 37) (pc := 59) (tgt := 96) rfl rfl rfl (by decide +kernel) (by decide +kernel)) (
  mA (i := 35) (ok_ild (pc := 62) rfl rfl (by decide +kernel)) (
  mA (i := 36) (ok_bi (n := 24) (pc := 64) (by decide +kernel) rfl rfl (by decide +kernel)) (
  mA (i := 37) (ok_cge (off := 30) (pc := 66) (tgt := 96) rfl rfl rfl (by decide +kernel) (by decide +kernel)) (
  mA (i := 38) (ok_ild (pc := 69) rfl rfl (by decide +kernel)) (
  mA (i := 39) (ok_ald_n (f := 0) (pc := 71) rfl rfl rfl (by decide +kernel)) (
  mA (i := 40) (ok_gP (pc := 72) rfl (by decide +kernel) wd_133 inw_5 rfl rfl (by decide +kernel)) (
  mA (i := 41) (ok_ild (pc := 75) rfl rfl (by decide +kernel)) (
  mA (i := 42) (ok_iald (pc := 77) rfl rfl (by decide +kernel)) (
  mA (i := 43) (ok_cgt (off := 12) (pc := 78) (tgt := 90) rfl rfl rfl (by decide +kernel) (by decide +kernel)) (
  mA (i := 44) (ok_ild (pc := 81) rfl rfl (by decide +kernel)) (
  mA (i := 45) (ok_ic (n := 1) (pc := 83) (by decide +kernel) rfl rfl (by decide +kernel)) (
  mA (i := 46) (ok_ild (pc := 84) rfl rfl (by decide +kernel)) (
  mA (i := 47) (ok_shl (pc := 86) rfl rfl (by decide +kernel)) (
  mA (i := 48) (ok_or (pc := 87) rfl rfl (by decide +kernel)) (
  mA (i := 49) (ok_ist (pc := 88) (by decide +kernel) rfl rfl rfl (by decide +kernel)) (
  mA (i := 50) (ok_inc (z := 1) (pc := 90) (by decide +kernel) (by decide +kernel) rfl rfl rfl (by decide +kernel)) (
  mA (i := 51) (ok_goto (off := (-37)) (pc := 93) (tgt := 56) rfl rfl (by decide +kernel) (by decide +kernel)) (
  mA (i := 52) (ok_ald (pc := 96) rfl rfl (by decide +kernel)) (
  mA (i := 53) (ok_ild (pc := 98) rfl rfl (by decide +kernel)) (
  mA (i := 54) (ok_ild (pc := 100) rfl rfl (by decide +kernel)) (
  mA (i := 55) (ok_iast (pc := 102) rfl rfl (by decide +kernel)) (
  mA (i := 56) (ok_inc (z := 1) (pc := 103) (by decide +kernel) (by decide +kernel) rfl rfl rfl (by decide +kernel)) (
  mA (i := 57) (ok_goto (off := (-80)) (pc := 106) (tgt := 26) rfl rfl (by decide +kernel) (by decide +kernel)) (
  mA (i := 58) (ok_vret (pc := 109) rfl rfl (by decide +kernel)) (
  mZ)))))))))))))))))))))))))))))))))))))))))))))))))))))))))))
set_option maxRecDepth 20000 in
theorem ok_Pa_readValues : mAll (mOk RX4 cX4_readValues 6 true false none (mnat p_Pa_readValues)) 0 k_Pa_readValues := mA (i := 0) (ok_ic (n := 0) (pc := 0) (by decide +kernel) rfl rfl (by decide +kernel)) (
  mA (i := 1) (ok_ist (pc := 1) (by decide +kernel) rfl rfl rfl (by decide +kernel)) (
  mA (i := 2) (ok_ild (pc := 3) rfl rfl (by decide +kernel)) (
  mA (i := 3) (ok_bi (n := 24) (pc := 5) (by decide +kernel) rfl rfl (by decide +kernel)) (
  mA (i := 4) (ok_cge (off := 40) (pc := 7) (tgt := 47) rfl rfl rfl (by decide +kernel) (by decide +kernel)) (
  mA (i := 5) (ok_ald_n (f := 1) (pc := 10) rfl rfl rfl (by decide +kernel)) (
  mA (i := 6) (ok_ild (pc := 11) rfl rfl (by decide +kernel)) (
  mA (i := 7) (ok_callP (pc := 13) (can_V cal_St_clause (by decide +kernel) rfl (by decide +kernel) rfl wd_170 wd_171 wd_172 wd_80 (by decide +kernel)) rfl rfl) (
  mA (i := 8) (ok_ast (pc := 16) (by decide +kernel) rfl rfl rfl (by decide +kernel)) (
  mA (i := 9) (ok_ald_n (f := 0) (pc := 18) rfl rfl rfl (by decide +kernel)) (
  mA (i := 10) (ok_gP (pc := 19) rfl (by decide +kernel) wd_133 inw_5 rfl rfl (by decide +kernel)) (
  mA (i := 11) (ok_ild (pc := 22) rfl rfl (by decide +kernel)) (
  mA (i := 12) (ok_ald (pc := 24) rfl rfl (by decide +kernel)) (
  mA (i := 13) (ok_nonnull (off := 7) (pc := 26) (tgt := 33) rfl rfl rfl (by decide +kernel) (by decide +kernel)) (
  mA (i := 14) (ok_ic (n := (-1)) (pc := 29) (by decide +kernel) rfl rfl (by decide +kernel)) (
  mA (i := 15) (ok_goto (off := 10) (pc := 30) (tgt := 40) rfl rfl (by decide +kernel) (by decide +kernel)) (
  mA (i := 16) (ok_ald (pc := 33) rfl rfl (by decide +kernel)) (
  mA (i := 17) (ok_ild_n (f := 2) (pc := 35) rfl rfl rfl (by decide +kernel)) (
  mA (i := 18) (ok_ild_n (f := 3) (pc := 36) rfl rfl rfl (by decide +kernel)) (
  mA (i := 19) (ok_callI (pc := 37) (can_V cal_Cl_measure (by decide +kernel) rfl (by decide +kernel) rfl wd_173 wd_174 wd_175 wd_24 (by decide +kernel)) rfl rfl) (
  mA (i := 20) (ok_iast (pc := 40) rfl rfl (by decide +kernel)) (
  mA (i := 21) (ok_inc (z := 1) (pc := 41) (by decide +kernel) (by decide +kernel) rfl rfl rfl (by decide +kernel)) (
  mA (i := 22) (ok_goto (off := (-41)) (pc := 44) (tgt := 3) rfl rfl (by decide +kernel) (by decide +kernel)) (
  mA (i := 23) (ok_vret (pc := 47) rfl rfl (by decide +kernel)) (
  mZ))))))))))))))))))))))))
set_option maxRecDepth 20000 in
theorem ok_Pa_leaveAll : mAll (mOk RX4 cX4_leaveAll 4 true false none (mnat p_Pa_leaveAll)) 0 k_Pa_leaveAll := mA (i := 0) (ok_ald_n (f := 1) (pc := 0) rfl rfl rfl (by decide +kernel)) (
  mA (i := 1) (ok_callI (pc := 1) (can_V cal_St_numbers (by decide +kernel) rfl (by decide +kernel) rfl wd_176 wd_177 wd_178 wd_80 (by decide +kernel)) rfl rfl) (
  mA (i := 2) (ok_ist_n (f := 2) (pc := 4) rfl (by decide +kernel) rfl rfl rfl (by decide +kernel)) (
  mA (i := 3) (ok_ic (n := 0) (pc := 5) (by decide +kernel) rfl rfl (by decide +kernel)) (
  mA (i := 4) (ok_ist_n (f := 3) (pc := 6) rfl (by decide +kernel) rfl rfl rfl (by decide +kernel)) (
  mA (i := 5) (ok_ild_n (f := 3) (pc := 7) rfl rfl rfl (by decide +kernel)) (
  mA (i := 6) (ok_bi (n := 24) (pc := 8) (by decide +kernel) rfl rfl (by decide +kernel)) (
  mA (i := 7) (ok_cge (off := 35) (pc := 10) (tgt := 45) rfl rfl rfl (by decide +kernel) (by decide +kernel)) (
  mA (i := 8) (ok_ald_n (f := 0) (pc := 13) rfl rfl rfl (by decide +kernel)) (
  mA (i := 9) (ok_gP (pc := 14) rfl (by decide +kernel) wd_132 inw_5 rfl rfl (by decide +kernel)) (
  mA (i := 10) (ok_ild_n (f := 3) (pc := 17) rfl rfl rfl (by decide +kernel)) (
  mA (i := 11) (ok_ild_n (f := 2) (pc := 18) rfl rfl rfl (by decide +kernel)) (
  mA (i := 12) (ok_ild_n (f := 3) (pc := 19) rfl rfl rfl (by decide +kernel)) (
  mA (i := 13) (ok_shr (pc := 20) rfl rfl (by decide +kernel)) (
  mA (i := 14) (ok_ic (n := 1) (pc := 21) (by decide +kernel) rfl rfl (by decide +kernel)) (
  mA (i := 15) (ok_and (pc := 22) rfl rfl (by decide +kernel)) (
  mA (i := 16) (ok_ic (n := 1) (pc := 23) (by decide +kernel) rfl rfl (by decide +kernel)) (
  mA (i := 17) (ok_cne (off := 13) (pc := 24) (tgt := 37) rfl rfl rfl (by decide +kernel) (by decide +kernel)) (
  mA (i := 18) (ok_ild_n (f := 2) (pc := 27) rfl rfl rfl (by decide +kernel)) (
  mA (i := 19) (ok_ic (n := 1) (pc := 28) (by decide +kernel) rfl rfl (by decide +kernel)) (
  mA (i := 20) (ok_ild_n (f := 3) (pc := 29) rfl rfl rfl (by decide +kernel)) (
  mA (i := 21) (ok_shl (pc := 30) rfl rfl (by decide +kernel)) (
  mA (i := 22) (ok_ic (n := (-1)) (pc := 31) (by decide +kernel) rfl rfl (by decide +kernel)) (
  mA (i := 23) (ok_xor (pc := 32) rfl rfl (by decide +kernel)) (
  mA (i := 24) (ok_and (pc := 33) rfl rfl (by decide +kernel)) (
  mA (i := 25) (ok_goto (off := 4) (pc := 34) (tgt := 38) rfl rfl (by decide +kernel) (by decide +kernel)) (
  mA (i := 26) (ok_ic (n := 0) (pc := 37) (by decide +kernel) rfl rfl (by decide +kernel)) (
  mA (i := 27) (ok_iast (pc := 38) rfl rfl (by decide +kernel)) (
  mA (i := 28) (ok_inc (z := 1) (pc := 39) (by decide +kernel) (by decide +kernel) rfl rfl rfl (by decide +kernel)) (
  mA (i := 29) (ok_goto (off := (-35)) (pc := 42) (tgt := 7) rfl rfl (by decide +kernel) (by decide +kernel)) (
  mA (i := 30) (ok_vret (pc := 45) rfl rfl (by decide +kernel)) (
  mZ)))))))))))))))))))))))))))))))
set_option maxRecDepth 20000 in
theorem ok_Pa_narrow : mAll (mOk RX4 cX4_narrow 4 true false none (mnat p_Pa_narrow)) 0 k_Pa_narrow := mA (i := 0) (ok_ild_n (f := 1) (pc := 0) rfl rfl rfl (by decide +kernel)) (
  mA (i := 1) (ok_callI (pc := 1) (can_SN cal_C_isFeature (by decide +kernel) wn_169 wd_37 wd_35 (by decide +kernel)) rfl rfl) (
  mA (i := 2) (ok_ifeq (off := 12) (pc := 4) (tgt := 16) rfl rfl rfl (by decide +kernel) (by decide +kernel)) (
  mA (i := 3) (ok_ald_n (f := 0) (pc := 7) rfl rfl rfl (by decide +kernel)) (
  mA (i := 4) (ok_gP (pc := 8) rfl (by decide +kernel) wd_131 inw_5 rfl rfl (by decide +kernel)) (
  mA (i := 5) (ok_ild_n (f := 1) (pc := 11) rfl rfl rfl (by decide +kernel)) (
  mA (i := 6) (ok_iiald (pc := 12) rfl rfl (by decide +kernel)) (
  mA (i := 7) (ok_goto (off := 7) (pc := 13) (tgt := 20) rfl rfl (by decide +kernel) (by decide +kernel)) (
  mA (i := 8) (ok_ald_n (f := 0) (pc := 16) rfl rfl rfl (by decide +kernel)) (
  mA (i := 9) (ok_gP (pc := 17) rfl (by decide +kernel) wd_132 inw_5 rfl rfl (by decide +kernel)) (
  mA (i := 10) (ok_ast_n (f := 2) (pc := 20) rfl (by decide +kernel) rfl rfl rfl (by decide +kernel)) (
  mA (i := 11) (ok_ic (n := 0) (pc := 21) (by decide +kernel) rfl rfl (by decide +kernel)) (
  mA (i := 12) (ok_ist_n (f := 3) (pc := 22) rfl (by decide +kernel) rfl rfl rfl (by decide +kernel)) (
  mA (i := 13) (ok_ild_n (f := 3) (pc := 23) rfl rfl rfl (by decide +kernel)) (
  mA (i := 14) (ok_bi (n := 24) (pc := 24) (by decide +kernel) rfl rfl (by decide +kernel)) (
  mA (i := 15) (ok_cge (off := 27) (pc := 26) (tgt := 53) rfl rfl rfl (by decide +kernel) (by decide +kernel)) (
  mA (i := 16) (ok_ild_n (f := 3) (pc := 29) rfl rfl rfl (by decide +kernel)) (
  mA (i := 17) (ok_ald_n (f := 2) (pc := 30) rfl rfl rfl (by decide +kernel)) (
  mA (i := 18) (ok_len (pc := 31) (by decide +kernel) rfl rfl (by decide +kernel)) (
  mA (i := 19) (ok_cge (off := 21) (pc := 32) (tgt := 53) rfl rfl rfl (by decide +kernel) (by decide +kernel)) (
  mA (i := 20) (ok_ald_n (f := 0) (pc := 35) rfl rfl rfl (by decide +kernel)) (
  mA (i := 21) (ok_gP (pc := 36) rfl (by decide +kernel) wd_132 inw_5 rfl rfl (by decide +kernel)) (
  mA (i := 22) (ok_ild_n (f := 3) (pc := 39) rfl rfl rfl (by decide +kernel)) (
  mA (i := 23) (ok_dup2 (pc := 40) rfl rfl (by decide +kernel)) (
  mA (i := 24) (ok_iald (pc := 41) rfl rfl (by decide +kernel)) (
  mA (i := 25) (ok_ald_n (f := 2) (pc := 42) rfl rfl rfl (by decide +kernel)) (
  mA (i := 26) (ok_ild_n (f := 3) (pc := 43) rfl rfl rfl (by decide +kernel)) (
  mA (i := 27) (ok_iald (pc := 44) rfl rfl (by decide +kernel)) (
  mA (i := 28) (ok_and (pc := 45) rfl rfl (by decide +kernel)) (
  mA (i := 29) (ok_iast (pc := 46) rfl rfl (by decide +kernel)) (
  mA (i := 30) (ok_inc (z := 1) (pc := 47) (by decide +kernel) (by decide +kernel) rfl rfl rfl (by decide +kernel)) (
  mA (i := 31) (ok_goto (off := (-27)) (pc := 50) (tgt := 23) rfl rfl (by decide +kernel) (by decide +kernel)) (
  mA (i := 32) (ok_vret (pc := 53) rfl rfl (by decide +kernel)) (
  mZ)))))))))))))))))))))))))))))))))
set_option maxRecDepth 20000 in
theorem ok_Pa_leftWith : mAll (mOk RX4 cX4_leftWith 5 true false (some .int) (mnat p_Pa_leftWith)) 0 k_Pa_leftWith := mA (i := 0) (ok_ild_n (f := 1) (pc := 0) rfl rfl rfl (by decide +kernel)) (
  mA (i := 1) (ok_callI (pc := 1) (can_SN cal_C_isFeature (by decide +kernel) wn_169 wd_37 wd_35 (by decide +kernel)) rfl rfl) (
  mA (i := 2) (ok_ifeq (off := 12) (pc := 4) (tgt := 16) rfl rfl rfl (by decide +kernel) (by decide +kernel)) (
  mA (i := 3) (ok_ald_n (f := 0) (pc := 7) rfl rfl rfl (by decide +kernel)) (
  mA (i := 4) (ok_gP (pc := 8) rfl (by decide +kernel) wd_131 inw_5 rfl rfl (by decide +kernel)) (
  mA (i := 5) (ok_ild_n (f := 1) (pc := 11) rfl rfl rfl (by decide +kernel)) (
  mA (i := 6) (ok_iiald (pc := 12) rfl rfl (by decide +kernel)) (
  mA (i := 7) (ok_goto (off := 7) (pc := 13) (tgt := 20) rfl rfl (by decide +kernel) (by decide +kernel)) (
  mA (i := 8) (ok_ald_n (f := 0) (pc := 16) rfl rfl rfl (by decide +kernel)) (
  mA (i := 9) (ok_gP (pc := 17) rfl (by decide +kernel) wd_132 inw_5 rfl rfl (by decide +kernel)) (
  mA (i := 10) (ok_ast_n (f := 2) (pc := 20) rfl (by decide +kernel) rfl rfl rfl (by decide +kernel)) (
  mA (i := 11) (ok_ic (n := 0) (pc := 21) (by decide +kernel) rfl rfl (by decide +kernel)) (
  mA (i := 12) (ok_ist_n (f := 3) (pc := 22) rfl (by decide +kernel) rfl rfl rfl (by decide +kernel)) (
  mA (i := 13) (ok_ic (n := 0) (pc := 23) (by decide +kernel) rfl rfl (by decide +kernel)) (
  mA (i := 14) (ok_ist (pc := 24) (by decide +kernel) rfl rfl rfl (by decide +kernel)) (
  mA (i := 15) (ok_ild (pc := 26) rfl rfl (by decide +kernel)) (
  mA (i := 16) (ok_bi (n := 24) (pc := 28) (by decide +kernel) rfl rfl (by decide +kernel)) (
  mA (i := 17) (ok_cge (off := 34) (pc := 30) (tgt := 64) rfl rfl rfl (by decide +kernel) (by decide +kernel)) (
  mA (i := 18) (ok_ild (pc := 33) rfl rfl (by decide +kernel)) (
  mA (i := 19) (ok_ald_n (f := 2) (pc := 35) rfl rfl rfl (by decide +kernel)) (
  mA (i := 20) (ok_len (pc := 36) (by decide +kernel) rfl rfl (by decide +kernel)) (
  mA (i := 21) (ok_cge (off := 27) (pc := 37) (tgt := 64) rfl rfl rfl (by decide +kernel) (by decide +kernel)) (
  mA (i := 22) (ok_ild_n (f := 3) (pc := 40) rfl rfl rfl (by decide +kernel)) (
  mA (i := 23) (ok_ald_n (f := 0) (pc := 41) rfl rfl rfl (by decide +kernel)) (
  mA (i := 24) (ok_gP (pc := 42) rfl (by decide +kernel) wd_132 inw_5 rfl rfl (by decide +kernel)) (
  mA (i := 25) (ok_ild (pc := 45) rfl rfl (by decide +kernel)) (
  mA (i := 26) (ok_iald (pc := 47) rfl rfl (by decide +kernel)) (
  mA (i := 27) (ok_ald_n (f := 2) (pc := 48) rfl rfl rfl (by decide +kernel)) (
  mA (i := 28) (ok_ild (pc := 49) rfl rfl (by decide +kernel)) (
  mA (i := 29) (ok_iald (pc := 51) rfl rfl (by decide +kernel)) (
  mA (i := 30) (ok_and (pc := 52) rfl rfl (by decide +kernel)) (
  mA (i := 31) (ok_callI (pc := 53) (can_S cal_Ji_bitCount (by decide +kernel) wd_181 wd_179 wd_180 (by decide +kernel)) rfl rfl) (
  mA (i := 32) (ok_add (pc := 56) rfl rfl (by decide +kernel)) (
  mA (i := 33) (ok_ist_n (f := 3) (pc := 57) rfl (by decide +kernel) rfl rfl rfl (by decide +kernel)) (
  mA (i := 34) (ok_inc (z := 1) (pc := 58) (by decide +kernel) (by decide +kernel) rfl rfl rfl (by decide +kernel)) (
  mA (i := 35) (ok_goto (off := (-35)) (pc := 61) (tgt := 26) rfl rfl (by decide +kernel) (by decide +kernel)) (
  mA (i := 36) (ok_ild_n (f := 3) (pc := 64) rfl rfl rfl (by decide +kernel)) (
  mA (i := 37) (ok_iret (pc := 65) rfl rfl (by decide +kernel)) (
  mZ))))))))))))))))))))))))))))))))))))))
set_option maxRecDepth 20000 in
theorem ok_Re_init : mAll (mOk RX5 cX5_init 1 true true none (mnat p_Re_init)) 0 k_Re_init := mA (i := 0) (ok_ald_n (f := 0) (pc := 0) rfl rfl rfl (by decide +kernel)) (
  mA (i := 1) (ok_obj (pc := 1) wd_182 wd_1 wd_objc rfl rfl (by decide +kernel)) (
  mA (i := 2) (ok_ald_n (f := 0) (pc := 4) rfl rfl rfl (by decide +kernel)) (
  mA (i := 3) (ok_bi (n := 100) (pc := 5) (by decide +kernel) rfl rfl (by decide +kernel)) (
  mA (i := 4) (ok_newi (pc := 7) wd_2 rfl rfl (by decide +kernel)) (
  mA (i := 5) (ok_pPF (pc := 9) rfl (by decide +kernel) wd_183 inw_6 tyX5_ok nmX5 rfl rfl rfl (tyX5_ok 0 (by decide +kernel)) rfl rfl rfl (by decide +kernel)) (
  mA (i := 6) (ok_ald_n (f := 0) (pc := 12) rfl rfl rfl (by decide +kernel)) (
  mA (i := 7) (ok_new (pc := 13) rfl (by decide +kernel) tyX1_ok df_2 wd_184 wd_185 wd_7 inw_2 rfl rfl (by decide +kernel)) (
  mA (i := 8) (ok_dup (pc := 16) rfl rfl (by decide +kernel)) (
  mA (i := 9) (ok_callV (pc := 17) (can_INk (by decide +kernel) cal_Dr_init (by decide +kernel) rfl wn_187 wd_186 wd_7 (by decide +kernel)) rfl rfl) (
  mA (i := 10) (ok_pPF (pc := 20) rfl (by decide +kernel) wd_188 inw_6 tyX5_ok nmX5 rfl rfl rfl (tyX5_ok 1 (by decide +kernel)) rfl rfl rfl (by decide +kernel)) (
  mA (i := 11) (ok_ald_n (f := 0) (pc := 23) rfl rfl rfl (by decide +kernel)) (
  mA (i := 12) (ok_ic (n := (-1)) (pc := 24) (by decide +kernel) rfl rfl (by decide +kernel)) (
  mA (i := 13) (ok_pI (pc := 25) rfl (by decide +kernel) wd_189 inw_6 tyX5_ok nmX5 rfl (by decide +kernel) rfl rfl (by decide +kernel)) (
  mA (i := 14) (ok_vret (pc := 28) rfl rfl (by decide +kernel)) (
  mZ)))))))))))))))
set_option maxRecDepth 20000 in
theorem ok_Re_onTape : mAll (mOk RX5 cX5_onTape 1 true false (some .int) (mnat p_Re_onTape)) 0 k_Re_onTape := mA (i := 0) (ok_ald_n (f := 0) (pc := 0) rfl rfl rfl (by decide +kernel)) (
  mA (i := 1) (ok_gI (pc := 1) rfl (by decide +kernel) wd_190 inw_6 rfl rfl (by decide +kernel)) (
  mA (i := 2) (ok_iret (pc := 4) rfl rfl (by decide +kernel)) (
  mZ)))
set_option maxRecDepth 20000 in
theorem ok_Re_latestFault : mAll (mOk RX5 cX5_latestFault 1 true false (some .int) (mnat p_Re_latestFault)) 0 k_Re_latestFault := mA (i := 0) (ok_ald_n (f := 0) (pc := 0) rfl rfl rfl (by decide +kernel)) (
  mA (i := 1) (ok_gI (pc := 1) rfl (by decide +kernel) wd_191 inw_6 rfl rfl (by decide +kernel)) (
  mA (i := 2) (ok_iret (pc := 4) rfl rfl (by decide +kernel)) (
  mZ)))
set_option maxRecDepth 20000 in
theorem ok_Re_latestPlace : mAll (mOk RX5 cX5_latestPlace 1 true false (some .int) (mnat p_Re_latestPlace)) 0 k_Re_latestPlace := mA (i := 0) (ok_ald_n (f := 0) (pc := 0) rfl rfl rfl (by decide +kernel)) (
  mA (i := 1) (ok_gI (pc := 1) rfl (by decide +kernel) wd_189 inw_6 rfl rfl (by decide +kernel)) (
  mA (i := 2) (ok_iret (pc := 4) rfl rfl (by decide +kernel)) (
  mZ)))
set_option maxRecDepth 20000 in
theorem ok_Re_symbolsRead : mAll (mOk RX5 cX5_symbolsRead 1 true false (some (.object "ClauseIndex$Draft")) (mnat p_Re_symbolsRead)) 0 k_Re_symbolsRead := mA (i := 0) (ok_ald_n (f := 0) (pc := 0) rfl rfl rfl (by decide +kernel)) (
  mA (i := 1) (ok_gP (pc := 1) rfl (by decide +kernel) wd_188 inw_6 rfl rfl (by decide +kernel)) (
  mA (i := 2) (ok_aret (pc := 4) (Or.inl ⟨_, rfl⟩) rfl (by decide +kernel)) (
  mZ)))
set_option maxRecDepth 20000 in
theorem ok_Re_putWord : mAll (mOk RX5 cX5_putWord 3 true false none (mnat p_Re_putWord)) 0 k_Re_putWord := mA (i := 0) (ok_bi (n := 24) (pc := 0) (by decide +kernel) rfl rfl (by decide +kernel)) (
  mA (i := 1) (ok_ist_n (f := 2) (pc := 2) rfl (by decide +kernel) rfl rfl rfl (by decide +kernel)) (
  mA (i := 2) (ok_ild_n (f := 2) (pc := 3) rfl rfl rfl (by decide +kernel)) (
  mA (i := 3) (ok_iflt (off := 51) (pc := 4) (tgt := 55) rfl rfl rfl (by decide +kernel) (by decide +kernel)) (
  mA (i := 4) (ok_ald_n (f := 0) (pc := 7) rfl rfl rfl (by decide +kernel)) (
  mA (i := 5) (ok_gI (pc := 8) rfl (by decide +kernel) wd_190 inw_6 rfl rfl (by decide +kernel)) (
  mA (i := 6) (ok_iflt (off := 38) (pc := 11) (tgt := 49) rfl rfl rfl (by decide +kernel) (by decide +kernel)) (
  mA (i := 7) (ok_ald_n (f := 0) (pc := 14) rfl rfl rfl (by decide +kernel)) (
  mA (i := 8) (ok_gI (pc := 15) rfl (by decide +kernel) wd_190 inw_6 rfl rfl (by decide +kernel)) (
  mA (i := 9) (ok_bi (n := 100) (pc := 18) (by decide +kernel) rfl rfl (by decide +kernel)) (
  mA (i := 10) (ok_cge (off := 29) (pc := 20) (tgt := 49) rfl rfl rfl (by decide +kernel) (by decide +kernel)) (
  mA (i := 11) (ok_ald_n (f := 0) (pc := 23) rfl rfl rfl (by decide +kernel)) (
  mA (i := 12) (ok_gP (pc := 24) rfl (by decide +kernel) wd_183 inw_6 rfl rfl (by decide +kernel)) (
  mA (i := 13) (ok_ald_n (f := 0) (pc := 27) rfl rfl rfl (by decide +kernel)) (
  mA (i := 14) (ok_gI (pc := 28) rfl (by decide +kernel) wd_190 inw_6 rfl rfl (by decide +kernel)) (
  mA (i := 15) (ok_ild_n (f := 1) (pc := 31) rfl rfl rfl (by decide +kernel)) (
  mA (i := 16) (ok_ild_n (f := 2) (pc := 32) rfl rfl rfl (by decide +kernel)) (
  mA (i := 17) (ok_ushr (pc := 33) rfl rfl (by decide +kernel)) (
  mA (i := 18) (ok_si (n := 255) (pc := 34) (by decide +kernel) rfl rfl (by decide +kernel)) (
  mA (i := 19) (ok_and (pc := 37) rfl rfl (by decide +kernel)) (
  mA (i := 20) (ok_iast (pc := 38) rfl rfl (by decide +kernel)) (
  mA (i := 21) (ok_ald_n (f := 0) (pc := 39) rfl rfl rfl (by decide +kernel)) (
  mA (i := 22) (ok_dup (pc := 40) rfl rfl (by decide +kernel)) (
  mA (i := 23) (ok_gI (pc := 41) rfl (by decide +kernel) wd_190 inw_6 rfl rfl (by decide +kernel)) (
  mA (i := 24) (ok_ic (n := 1) (pc := 44) (by decide +kernel) rfl rfl (by decide +kernel)) (
  mA (i := 25) (ok_add (pc := 45) rfl rfl (by decide +kernel)) (
  mA (i := 26) (ok_pI (pc := 46) rfl (by decide +kernel) wd_190 inw_6 tyX5_ok nmX5 rfl (by decide +kernel) rfl rfl (by decide +kernel)) (
  mA (i := 27) (ok_inc (z := (-8)) (pc := 49) (by decide +kernel) (by decide +kernel) rfl rfl rfl (by decide +kernel)) (
  mA (i := 28) (ok_goto (off := (-49)) (pc := 52) (tgt := 3) rfl rfl (by decide +kernel) (by decide +kernel)) (
  mA (i := 29) (ok_vret (pc := 55) rfl rfl (by decide +kernel)) (
  mZ))))))))))))))))))))))))))))))
set_option maxRecDepth 20000 in
theorem ok_Re_readClause : mAll (mOk RX5 cX5_readClause 3 true false (some .boolean) (mnat p_Re_readClause)) 0 k_Re_readClause := mA (i := 0) (ok_ald_n (f := 0) (pc := 0) rfl rfl rfl (by decide +kernel)) (
  mA (i := 1) (ok_ild_n (f := 1) (pc := 1) rfl rfl rfl (by decide +kernel)) (
  mA (i := 2) (ok_callV (pc := 2) (can_V cal_Re_begin (by decide +kernel) rfl (by decide +kernel) rfl wd_192 wd_193 wd_194 wd_195 (by decide +kernel)) rfl rfl) (
  mA (i := 3) (ok_ald_n (f := 0) (pc := 5) rfl rfl rfl (by decide +kernel)) (
  mA (i := 4) (ok_gI (pc := 6) rfl (by decide +kernel) wd_196 inw_6 rfl rfl (by decide +kernel)) (
  mA (i := 5) (ok_ifne (off := 5) (pc := 9) (tgt := 14) rfl rfl rfl (by decide +kernel) (by decide +kernel)) (
  mA (i := 6) (ok_ic (n := 1) (pc := 12) (by decide +kernel) rfl rfl (by decide +kernel)) (
  mA (i := 7) (ok_zret (pc := 13) rfl rfl (by decide +kernel)) (
  mA (i := 8) (ok_ic (n := 1) (pc := 14) (by decide +kernel) rfl rfl (by decide +kernel)) (
  mA (i := 9) (ok_ist_n (f := 2) (pc := 15) rfl (by decide +kernel) rfl rfl rfl (by decide +kernel)) (
  mA (i := 10) (ok_ild_n (f := 2) (pc := 16) rfl rfl rfl (by decide +kernel)) (
  mA (i := 11) (ok_ic (n := 5) (pc := 17) (by decide +kernel) rfl rfl (by decide +kernel)) (
  mA (i := 12) (ok_cgt (off := 61) (pc := 18) (tgt := 79) rfl rfl rfl (by decide +kernel) (by decide +kernel)) (
  mA (i := 13) (ok_ald_n (f := 0) (pc := 21) rfl rfl rfl (by decide +kernel)) (
  mA (i := 14) (ok_callI (pc := 22) (can_V cal_Re_readLiteral (by decide +kernel) rfl (by decide +kernel) rfl wd_197 wd_198 wd_199 wd_195 (by decide +kernel)) rfl rfl) (
  mA (i := 15) (ok_ifne (off := 5) (pc := 25) (tgt := 30) rfl rfl rfl (by decide +kernel) (by decide +kernel)) (
  mA (i := 16) (ok_ic (n := 0) (pc := 28) (by decide +kernel) rfl rfl (by decide +kernel)) (
  mA (i := 17) (ok_zret (pc := 29) rfl rfl (by decide +kernel)) (
  mA (i := 18) (ok_ald_n (f := 0) (pc := 30) rfl rfl rfl (by decide +kernel)) (
  mA (i := 19) (ok_gI (pc := 31) rfl (by decide +kernel) wd_200 inw_6 rfl rfl (by decide +kernel)) (
  mA (i := 20) (ok_ald_n (f := 0) (pc := 34) rfl rfl rfl (by decide +kernel)) (
  mA (i := 21) (ok_gI (pc := 35) rfl (by decide +kernel) wd_196 inw_6 rfl rfl (by decide +kernel)) (
  mA (i := 22) (ok_cne (off := 5) (pc := 38) (tgt := 43) rfl rfl rfl (by decide +kernel) (by decide +kernel)) (
  mA (i := 23) (ok_ic (n := 1) (pc := 41) (by decide +kernel) rfl rfl (by decide +kernel)) (
  mA (i := 24) (ok_zret (pc := 42) rfl rfl (by decide +kernel)) (
  mA (i := 25) (ok_ald_n (f := 0) (pc := 43) rfl rfl rfl (by decide +kernel)) (
  mA (i := 26) (ok_callI (pc := 44) (can_V cal_Re_look (by decide +kernel) rfl (by decide +kernel) rfl wd_201 wd_202 wd_203 wd_195 (by decide +kernel)) rfl rfl) (
  mA (i := 27) (ok_bi (n := 124) (pc := 47) (by decide +kernel) rfl rfl (by decide +kernel)) (
  mA (i := 28) (ok_ceq (off := 9) (pc := 49) (tgt := 58) rfl rfl rfl (by decide +kernel) (by decide +kernel)) (
  mA (i := 29) (ok_ald_n (f := 0) (pc := 52) rfl rfl rfl (by decide +kernel)) (
  mA (i := 30) (ok_ic (n := 1) (pc := 53) (by decide +kernel) rfl rfl (by decide +kernel)) (
  mA (i := 31) (ok_callI (pc := 54) (can_V cal_Re_fail (by decide +kernel) rfl (by decide +kernel) rfl wd_204 wd_205 wd_206 wd_195 (by decide +kernel)) rfl rfl) (
  mA (i := 32) (ok_zret (pc := 57) rfl rfl (by decide +kernel)) (
  mA (i := 33) (ok_ild_n (f := 2) (pc := 58) rfl rfl rfl (by decide +kernel)) (
  mA (i := 34) (ok_ic (n := 5) (pc := 59) (by decide +kernel) rfl rfl (by decide +kernel)) (
  mA (i := 35) (ok_cge (off := 13) (pc := 60) (tgt := 73) rfl rfl rfl (by decide +kernel) (by decide +kernel)) (
  mA (i := 36) (ok_ald_n (f := 0) (pc := 63) rfl rfl rfl (by decide +kernel)) (
  mA (i := 37) (ok_dup (pc := 64) rfl rfl (by decide +kernel)) (
  mA (i := 38) (ok_gI (pc := 65) rfl (by decide +kernel) wd_200 inw_6 rfl rfl (by decide +kernel)) (
  mA (i := 39) (ok_ic (n := 1) (pc := 68) (by decide +kernel) rfl rfl (by decide +kernel)) (
  mA (i := 40) (ok_add (pc := 69) rfl rfl (by decide +kernel)) (
  mA (i := 41) (ok_pI (pc := 70) rfl (by decide +kernel) wd_200 inw_6 tyX5_ok nmX5 rfl (by decide +kernel) rfl rfl (by decide +kernel)) (
  mA (i := 42) (ok_inc (z := 1) (pc := 73) (by decide +kernel) (by decide +kernel) rfl rfl rfl (by decide +kernel)) (
  mA (i := 43) (ok_goto (off := (-60)) (pc := 76) (tgt := 16) rfl rfl (by decide +kernel) (by decide +kernel)) (
  mA (i := 44) (ok_ald_n (f := 0) (pc := 79) rfl rfl rfl (by decide +kernel)) (
  mA (i := 45) (ok_ic (n := 2) (pc := 80) (by decide +kernel) rfl rfl (by decide +kernel)) (
  mA (i := 46) (ok_callI (pc := 81) (can_V cal_Re_fail (by decide +kernel) rfl (by decide +kernel) rfl wd_204 wd_205 wd_206 wd_195 (by decide +kernel)) rfl rfl) (
  mA (i := 47) (ok_zret (pc := 84) rfl rfl (by decide +kernel)) (
  mZ))))))))))))))))))))))))))))))))))))))))))))))))
set_option maxRecDepth 20000 in
theorem ok_Re_readPut : mAll (mOk RX5 cX5_readPut 3 true false (some .boolean) (mnat p_Re_readPut)) 0 k_Re_readPut := mA (i := 0) (ok_ald_n (f := 0) (pc := 0) rfl rfl rfl (by decide +kernel)) (
  mA (i := 1) (ok_ild_n (f := 1) (pc := 1) rfl rfl rfl (by decide +kernel)) (
  mA (i := 2) (ok_callV (pc := 2) (can_V cal_Re_begin (by decide +kernel) rfl (by decide +kernel) rfl wd_192 wd_193 wd_194 wd_195 (by decide +kernel)) rfl rfl) (
  mA (i := 3) (ok_ald_n (f := 0) (pc := 5) rfl rfl rfl (by decide +kernel)) (
  mA (i := 4) (ok_callI (pc := 6) (can_V cal_Re_look (by decide +kernel) rfl (by decide +kernel) rfl wd_201 wd_202 wd_203 wd_195 (by decide +kernel)) rfl rfl) (
  mA (i := 5) (ok_callI (pc := 9) (can_S cal_Re_termCode (by decide +kernel) wd_208 wd_207 wd_195 (by decide +kernel)) rfl rfl) (
  mA (i := 6) (ok_ist_n (f := 2) (pc := 12) rfl (by decide +kernel) rfl rfl rfl (by decide +kernel)) (
  mA (i := 7) (ok_ild_n (f := 2) (pc := 13) rfl rfl rfl (by decide +kernel)) (
  mA (i := 8) (ok_callI (pc := 14) (can_SN cal_C_isVariable (by decide +kernel) wn_209 wd_34 wd_35 (by decide +kernel)) rfl rfl) (
  mA (i := 9) (ok_ifne (off := 9) (pc := 17) (tgt := 26) rfl rfl rfl (by decide +kernel) (by decide +kernel)) (
  mA (i := 10) (ok_ald_n (f := 0) (pc := 20) rfl rfl rfl (by decide +kernel)) (
  mA (i := 11) (ok_ic (n := 1) (pc := 21) (by decide +kernel) rfl rfl (by decide +kernel)) (
  mA (i := 12) (ok_callI (pc := 22) (can_V cal_Re_fail (by decide +kernel) rfl (by decide +kernel) rfl wd_204 wd_205 wd_206 wd_195 (by decide +kernel)) rfl rfl) (
  mA (i := 13) (ok_zret (pc := 25) rfl rfl (by decide +kernel)) (
  mA (i := 14) (ok_ald_n (f := 0) (pc := 26) rfl rfl rfl (by decide +kernel)) (
  mA (i := 15) (ok_ild_n (f := 2) (pc := 27) rfl rfl rfl (by decide +kernel)) (
  mA (i := 16) (ok_ic (n := 0) (pc := 28) (by decide +kernel) rfl rfl (by decide +kernel)) (
  mA (i := 17) (ok_callI (pc := 29) (can_V cal_Re_readSymbol (by decide +kernel) rfl (by decide +kernel) rfl wd_210 wd_211 wd_212 wd_195 (by decide +kernel)) rfl rfl) (
  mA (i := 18) (ok_ifeq (off := 43) (pc := 32) (tgt := 75) rfl rfl rfl (by decide +kernel) (by decide +kernel)) (
  mA (i := 19) (ok_ald_n (f := 0) (pc := 35) rfl rfl rfl (by decide +kernel)) (
  mA (i := 20) (ok_bi (n := 61) (pc := 36) (by decide +kernel) rfl rfl (by decide +kernel)) (
  mA (i := 21) (ok_callI (pc := 38) (can_V cal_Re_expect (by decide +kernel) rfl (by decide +kernel) rfl wd_213 wd_214 wd_215 wd_195 (by decide +kernel)) rfl rfl) (
  mA (i := 22) (ok_ifeq (off := 34) (pc := 41) (tgt := 75) rfl rfl rfl (by decide +kernel) (by decide +kernel)) (
  mA (i := 23) (ok_ald_n (f := 0) (pc := 44) rfl rfl rfl (by decide +kernel)) (
  mA (i := 24) (ok_ic (n := 1) (pc := 45) (by decide +kernel) rfl rfl (by decide +kernel)) (
  mA (i := 25) (ok_callI (pc := 46) (can_V cal_Re_readTerm (by decide +kernel) rfl (by decide +kernel) rfl wd_216 wd_217 wd_218 wd_195 (by decide +kernel)) rfl rfl) (
  mA (i := 26) (ok_ifeq (off := 26) (pc := 49) (tgt := 75) rfl rfl rfl (by decide +kernel) (by decide +kernel)) (
  mA (i := 27) (ok_ald_n (f := 0) (pc := 52) rfl rfl rfl (by decide +kernel)) (
  mA (i := 28) (ok_gI (pc := 53) rfl (by decide +kernel) wd_200 inw_6 rfl rfl (by decide +kernel)) (
  mA (i := 29) (ok_ald_n (f := 0) (pc := 56) rfl rfl rfl (by decide +kernel)) (
  mA (i := 30) (ok_gI (pc := 57) rfl (by decide +kernel) wd_196 inw_6 rfl rfl (by decide +kernel)) (
  mA (i := 31) (ok_ceq (off := 11) (pc := 60) (tgt := 71) rfl rfl rfl (by decide +kernel) (by decide +kernel)) (
  mA (i := 32) (ok_ald_n (f := 0) (pc := 63) rfl rfl rfl (by decide +kernel)) (
  mA (i := 33) (ok_ic (n := 1) (pc := 64) (by decide +kernel) rfl rfl (by decide +kernel)) (
  mA (i := 34) (ok_callI (pc := 65) (can_V cal_Re_fail (by decide +kernel) rfl (by decide +kernel) rfl wd_204 wd_205 wd_206 wd_195 (by decide +kernel)) rfl rfl) (
  mA (i := 35) (ok_ifeq (off := 7) (pc := 68) (tgt := 75) rfl rfl rfl (by decide +kernel) (by decide +kernel)) (
  mA (i := 36) (ok_ic (n := 1) (pc := 71) (by decide +kernel) rfl rfl (by decide +kernel)) (
  mA (i := 37) (ok_goto (off := 4) (pc := 72) (tgt := 76) rfl rfl (by decide +kernel) (by decide +kernel)) (
  mA (i := 38) (ok_ic (n := 0) (pc := 75) (by decide +kernel) rfl rfl (by decide +kernel)) (
  mA (i := 39) (ok_zret (pc := 76) rfl rfl (by decide +kernel)) (
  mZ))))))))))))))))))))))))))))))))))))))))
set_option maxRecDepth 20000 in
theorem ok_Re_begin : mAll (mOk RX5 cX5_begin 2 true false none (mnat p_Re_begin)) 0 k_Re_begin := mA (i := 0) (ok_ald_n (f := 0) (pc := 0) rfl rfl rfl (by decide +kernel)) (
  mA (i := 1) (ok_ild_n (f := 1) (pc := 1) rfl rfl rfl (by decide +kernel)) (
  mA (i := 2) (ok_ald_n (f := 0) (pc := 2) rfl rfl rfl (by decide +kernel)) (
  mA (i := 3) (ok_gI (pc := 3) rfl (by decide +kernel) wd_190 inw_6 rfl rfl (by decide +kernel)) (
  mA (i := 4) (ok_callI (pc := 6) (can_S cal_Jm_min (by decide +kernel) wd_219 wd_90 wd_9 (by decide +kernel)) rfl rfl) (
  mA (i := 5) (ok_pI (pc := 9) rfl (by decide +kernel) wd_196 inw_6 tyX5_ok nmX5 rfl (by decide +kernel) rfl rfl (by decide +kernel)) (
  mA (i := 6) (ok_ald_n (f := 0) (pc := 12) rfl rfl rfl (by decide +kernel)) (
  mA (i := 7) (ok_ic (n := 0) (pc := 13) (by decide +kernel) rfl rfl (by decide +kernel)) (
  mA (i := 8) (ok_pI (pc := 14) rfl (by decide +kernel) wd_190 inw_6 tyX5_ok nmX5 rfl (by decide +kernel) rfl rfl (by decide +kernel)) (
  mA (i := 9) (ok_ald_n (f := 0) (pc := 17) rfl rfl rfl (by decide +kernel)) (
  mA (i := 10) (ok_ic (n := 0) (pc := 18) (by decide +kernel) rfl rfl (by decide +kernel)) (
  mA (i := 11) (ok_pI (pc := 19) rfl (by decide +kernel) wd_200 inw_6 tyX5_ok nmX5 rfl (by decide +kernel) rfl rfl (by decide +kernel)) (
  mA (i := 12) (ok_ald_n (f := 0) (pc := 22) rfl rfl rfl (by decide +kernel)) (
  mA (i := 13) (ok_ic (n := 0) (pc := 23) (by decide +kernel) rfl rfl (by decide +kernel)) (
  mA (i := 14) (ok_pI (pc := 24) rfl (by decide +kernel) wd_191 inw_6 tyX5_ok nmX5 rfl (by decide +kernel) rfl rfl (by decide +kernel)) (
  mA (i := 15) (ok_ald_n (f := 0) (pc := 27) rfl rfl rfl (by decide +kernel)) (
  mA (i := 16) (ok_ic (n := (-1)) (pc := 28) (by decide +kernel) rfl rfl (by decide +kernel)) (
  mA (i := 17) (ok_pI (pc := 29) rfl (by decide +kernel) wd_189 inw_6 tyX5_ok nmX5 rfl (by decide +kernel) rfl rfl (by decide +kernel)) (
  mA (i := 18) (ok_ald_n (f := 0) (pc := 32) rfl rfl rfl (by decide +kernel)) (
  mA (i := 19) (ok_gP (pc := 33) rfl (by decide +kernel) wd_188 inw_6 rfl rfl (by decide +kernel)) (
  mA (i := 20) (ok_callV (pc := 36) (can_V cal_Dr_empty (by decide +kernel) rfl (by decide +kernel) rfl wd_220 wd_55 wd_56 wd_7 (by decide +kernel)) rfl rfl) (
  mA (i := 21) (ok_vret (pc := 39) rfl rfl (by decide +kernel)) (
  mZ))))))))))))))))))))))
set_option maxRecDepth 20000 in
theorem ok_Re_fail : mAll (mOk RX5 cX5_fail 2 true false (some .boolean) (mnat p_Re_fail)) 0 k_Re_fail := mA (i := 0) (ok_ald_n (f := 0) (pc := 0) rfl rfl rfl (by decide +kernel)) (
  mA (i := 1) (ok_ild_n (f := 1) (pc := 1) rfl rfl rfl (by decide +kernel)) (
  mA (i := 2) (ok_pI (pc := 2) rfl (by decide +kernel) wd_191 inw_6 tyX5_ok nmX5 rfl (by decide +kernel) rfl rfl (by decide +kernel)) (
  mA (i := 3) (ok_ald_n (f := 0) (pc := 5) rfl rfl rfl (by decide +kernel)) (
  mA (i := 4) (ok_ald_n (f := 0) (pc := 6) rfl rfl rfl (by decide +kernel)) (
  mA (i := 5) (ok_gI (pc := 7) rfl (by decide +kernel) wd_200 inw_6 rfl rfl (by decide +kernel)) (
  mA (i := 6) (ok_pI (pc := 10) rfl (by decide +kernel) wd_189 inw_6 tyX5_ok nmX5 rfl (by decide +kernel) rfl rfl (by decide +kernel)) (
  mA (i := 7) (ok_ic (n := 0) (pc := 13) (by decide +kernel) rfl rfl (by decide +kernel)) (
  mA (i := 8) (ok_zret (pc := 14) rfl rfl (by decide +kernel)) (
  mZ)))))))))
set_option maxRecDepth 20000 in
theorem ok_Re_look : mAll (mOk RX5 cX5_look 1 true false (some .int) (mnat p_Re_look)) 0 k_Re_look := mA (i := 0) (ok_ald_n (f := 0) (pc := 0) rfl rfl rfl (by decide +kernel)) (
  mA (i := 1) (ok_gI (pc := 1) rfl (by decide +kernel) wd_200 inw_6 rfl rfl (by decide +kernel)) (
  mA (i := 2) (ok_iflt (off := 35) (pc := 4) (tgt := 39) rfl rfl rfl (by decide +kernel) (by decide +kernel)) (
  mA (i := 3) (ok_ald_n (f := 0) (pc := 7) rfl rfl rfl (by decide +kernel)) (
  mA (i := 4) (ok_gI (pc := 8) rfl (by decide +kernel) wd_200 inw_6 rfl rfl (by decide +kernel)) (
  mA (i := 5) (ok_ald_n (f := 0) (pc := 11) rfl rfl rfl (by decide +kernel)) (
  mA (i := 6) (ok_gI (pc := 12) rfl (by decide +kernel) wd_196 inw_6 rfl rfl (by decide +kernel)) (
  mA (i := 7) (ok_cge (off := 24) (pc := 15) (tgt := 39) rfl rfl rfl (by decide +kernel) (by decide +kernel)) (
  mA (i := 8) (ok_ald_n (f := 0) (pc := 18) rfl rfl rfl (by decide +kernel)) (
  mA (i := 9) (ok_gI (pc := 19) rfl (by decide +kernel) wd_200 inw_6 rfl rfl (by decide +kernel)) (
  mA (i := 10) (ok_bi (n := 100) (pc := 22) (by decide +kernel) rfl rfl (by decide +kernel)) (
  mA (i := 11) (ok_cge (off := 15) (pc := 24) (tgt := 39) rfl rfl rfl (by decide +kernel) (by decide +kernel)) (
  mA (i := 12) (ok_ald_n (f := 0) (pc := 27) rfl rfl rfl (by decide +kernel)) (
  mA (i := 13) (ok_gP (pc := 28) rfl (by decide +kernel) wd_183 inw_6 rfl rfl (by decide +kernel)) (
  mA (i := 14) (ok_ald_n (f := 0) (pc := 31) rfl rfl rfl (by decide +kernel)) (
  mA (i := 15) (ok_gI (pc := 32) rfl (by decide +kernel) wd_200 inw_6 rfl rfl (by decide +kernel)) (
  mA (i := 16) (ok_iald (pc := 35) rfl rfl (by decide +kernel)) (
  mA (i := 17) (ok_goto (off := 4) (pc := 36) (tgt := 40) rfl rfl (by decide +kernel) (by decide +kernel)) (
  mA (i := 18) (ok_ic (n := (-1)) (pc := 39) (by decide +kernel) rfl rfl (by decide +kernel)) (
  mA (i := 19) (ok_iret (pc := 40) rfl rfl (by decide +kernel)) (
  mZ))))))))))))))))))))
set_option maxRecDepth 20000 in
theorem ok_Re_expect : mAll (mOk RX5 cX5_expect 2 true false (some .boolean) (mnat p_Re_expect)) 0 k_Re_expect := mA (i := 0) (ok_ald_n (f := 0) (pc := 0) rfl rfl rfl (by decide +kernel)) (
  mA (i := 1) (ok_callI (pc := 1) (can_V cal_Re_look (by decide +kernel) rfl (by decide +kernel) rfl wd_201 wd_202 wd_203 wd_195 (by decide +kernel)) rfl rfl) (
  mA (i := 2) (ok_ild_n (f := 1) (pc := 4) rfl rfl rfl (by decide +kernel)) (
  mA (i := 3) (ok_ceq (off := 9) (pc := 5) (tgt := 14) rfl rfl rfl (by decide +kernel) (by decide +kernel)) (
  mA (i := 4) (ok_ald_n (f := 0) (pc := 8) rfl rfl rfl (by decide +kernel)) (
  mA (i := 5) (ok_ic (n := 1) (pc := 9) (by decide +kernel) rfl rfl (by decide +kernel)) (
  mA (i := 6) (ok_callI (pc := 10) (can_V cal_Re_fail (by decide +kernel) rfl (by decide +kernel) rfl wd_204 wd_205 wd_206 wd_195 (by decide +kernel)) rfl rfl) (
  mA (i := 7) (ok_zret (pc := 13) rfl rfl (by decide +kernel)) (
  mA (i := 8) (ok_ald_n (f := 0) (pc := 14) rfl rfl rfl (by decide +kernel)) (
  mA (i := 9) (ok_dup (pc := 15) rfl rfl (by decide +kernel)) (
  mA (i := 10) (ok_gI (pc := 16) rfl (by decide +kernel) wd_200 inw_6 rfl rfl (by decide +kernel)) (
  mA (i := 11) (ok_ic (n := 1) (pc := 19) (by decide +kernel) rfl rfl (by decide +kernel)) (
  mA (i := 12) (ok_add (pc := 20) rfl rfl (by decide +kernel)) (
  mA (i := 13) (ok_pI (pc := 21) rfl (by decide +kernel) wd_200 inw_6 tyX5_ok nmX5 rfl (by decide +kernel) rfl rfl (by decide +kernel)) (
  mA (i := 14) (ok_ic (n := 1) (pc := 24) (by decide +kernel) rfl rfl (by decide +kernel)) (
  mA (i := 15) (ok_zret (pc := 25) rfl rfl (by decide +kernel)) (
  mZ))))))))))))))))
set_option maxRecDepth 20000 in
theorem ok_Re_readLiteral : mAll (mOk RX5 cX5_readLiteral 3 true false (some .boolean) (mnat p_Re_readLiteral)) 0 k_Re_readLiteral := mA (i := 0) (ok_ic (n := 0) (pc := 0) (by decide +kernel) rfl rfl (by decide +kernel)) (
  mA (i := 1) (ok_ist_n (f := 1) (pc := 1) rfl (by decide +kernel) rfl rfl rfl (by decide +kernel)) (
  mA (i := 2) (ok_ald_n (f := 0) (pc := 2) rfl rfl rfl (by decide +kernel)) (
  mA (i := 3) (ok_callI (pc := 3) (can_V cal_Re_look (by decide +kernel) rfl (by decide +kernel) rfl wd_201 wd_202 wd_203 wd_195 (by decide +kernel)) rfl rfl) (
  mA (i := 4) (ok_bi (n := 45) (pc := 6) (by decide +kernel) rfl rfl (by decide +kernel)) (
  mA (i := 5) (ok_cne (off := 15) (pc := 8) (tgt := 23) rfl rfl rfl (by decide +kernel) (by decide +kernel)) (
  mA (i := 6) (ok_ic (n := 1) (pc := 11) (by decide +kernel) rfl rfl (by decide +kernel)) (
  mA (i := 7) (ok_ist_n (f := 1) (pc := 12) rfl (by decide +kernel) rfl rfl rfl (by decide +kernel)) (
  mA (i := 8) (ok_ald_n (f := 0) (pc := 13) rfl rfl rfl (by decide +kernel)) (
  mA (i := 9) (ok_dup (pc := 14) rfl rfl (by decide +kernel)) (
  mA (i := 10) (ok_gI (pc := 15) rfl (by decide +kernel) wd_200 inw_6 rfl rfl (by decide +kernel)) (
  mA (i := 11) (ok_ic (n := 1) (pc := 18) (by decide +kernel) rfl rfl (by decide +kernel)) (
  mA (i := 12) (ok_add (pc := 19) rfl rfl (by decide +kernel)) (
  mA (i := 13) (ok_pI (pc := 20) rfl (by decide +kernel) wd_200 inw_6 tyX5_ok nmX5 rfl (by decide +kernel) rfl rfl (by decide +kernel)) (
  mA (i := 14) (ok_ald_n (f := 0) (pc := 23) rfl rfl rfl (by decide +kernel)) (
  mA (i := 15) (ok_callI (pc := 24) (can_V cal_Re_look (by decide +kernel) rfl (by decide +kernel) rfl wd_201 wd_202 wd_203 wd_195 (by decide +kernel)) rfl rfl) (
  mA (i := 16) (ok_bi (n := 112) (pc := 27) (by decide +kernel) rfl rfl (by decide +kernel)) (
  mA (i := 17) (ok_sub (pc := 29) rfl rfl (by decide +kernel)) (
  mA (i := 18) (ok_ist_n (f := 2) (pc := 30) rfl (by decide +kernel) rfl rfl rfl (by decide +kernel)) (
  mA (i := 19) (ok_ild_n (f := 2) (pc := 31) rfl rfl rfl (by decide +kernel)) (
  mA (i := 20) (ok_iflt (off := 11) (pc := 32) (tgt := 43) rfl rfl rfl (by decide +kernel) (by decide +kernel)) (
  mA (i := 21) (ok_ild_n (f := 2) (pc := 35) rfl rfl rfl (by decide +kernel)) (
  mA (i := 22) (ok_tab (pc := 36) wn_221 rfl rfl (by decide +kernel)) (
  mA (i := 23) (ok_tlen (pc := 39) rfl rfl (by decide +kernel)) (
  mA (i := 24) (ok_clt (off := 9) (pc := 40) (tgt := 49) rfl rfl rfl (by decide +kernel) (by decide +kernel)) (
  mA (i := 25) (ok_ald_n (f := 0) (pc := 43) rfl rfl rfl (by decide +kernel)) (
  mA (i := 26) (ok_ic (n := 1) (pc := 44) (by decide +kernel) rfl rfl (by decide +kernel)) (
  mA (i := 27) (ok_callI (pc := 45) (can_V cal_Re_fail (by decide +kernel) rfl (by decide +kernel) rfl wd_204 wd_205 wd_206 wd_195 (by decide +kernel)) rfl rfl) (
  mA (i := 28) (ok_zret (pc := 48) rfl rfl (by decide +kernel)) (
  mA (i := 29) (ok_ald_n (f := 0) (pc := 49) rfl rfl rfl (by decide +kernel)) (
  mA (i := 30) (ok_bi (n := 100) (pc := 50) (by decide +kernel) rfl rfl (by decide +kernel)) (
  mA (i := 31) (ok_ic (n := 2) (pc := 52) (by decide +kernel) rfl rfl (by decide +kernel)) (
  mA (i := 32) (ok_ild_n (f := 2) (pc := 53) rfl rfl rfl (by decide +kernel)) (
  mA (i := 33) (ok_mul (pc := 54) rfl rfl (by decide +kernel)) (
  mA (i := 34) (ok_add (pc := 55) rfl rfl (by decide +kernel)) (
  mA (i := 35) (ok_ild_n (f := 1) (pc := 56) rfl rfl rfl (by decide +kernel)) (
  mA (i := 36) (ok_add (pc := 57) rfl rfl (by decide +kernel)) (
  mA (i := 37) (ok_ic (n := 0) (pc := 58) (by decide +kernel) rfl rfl (by decide +kernel)) (
  mA (i := 38) (ok_callI (pc := 59) (can_V cal_Re_readSymbol (by decide +kernel) rfl (by decide +kernel) rfl wd_210 wd_211 wd_212 wd_195 (by decide +kernel)) rfl rfl) (
  mA (i := 39) (ok_ifeq (off := 20) (pc := 62) (tgt := 82) rfl rfl rfl (by decide +kernel) (by decide +kernel)) (
  mA (i := 40) (ok_ald_n (f := 0) (pc := 65) rfl rfl rfl (by decide +kernel)) (
  mA (i := 41) (ok_tab (pc := 66) wn_221 rfl rfl (by decide +kernel)) (
  mA (i := 42) (ok_ild_n (f := 2) (pc := 69) rfl rfl rfl (by decide +kernel)) (
  mA (i := 43) (ok_tald (pc := 70) rfl rfl (by decide +kernel)) (
  mA (i := 44) (ok_ic (n := 1) (pc := 71) (by decide +kernel) rfl rfl (by decide +kernel)) (
  mA (i := 45) (ok_callI (pc := 72) (can_V cal_Re_readTerms (by decide +kernel) rfl (by decide +kernel) rfl wd_222 wd_223 wd_224 wd_195 (by decide +kernel)) rfl rfl) (
  mA (i := 46) (ok_ifeq (off := 7) (pc := 75) (tgt := 82) rfl rfl rfl (by decide +kernel) (by decide +kernel)) (
  mA (i := 47) (ok_ic (n := 1) (pc := 78) (by decide +kernel) rfl rfl (by decide +kernel)) (
  mA (i := 48) (ok_goto (off := 4) (pc := 79) (tgt := 83) rfl rfl (by decide +kernel) (by decide +kernel)) (
  mA (i := 49) (ok_ic (n := 0) (pc := 82) (by decide +kernel) rfl rfl (by decide +kernel)) (
  mA (i := 50) (ok_zret (pc := 83) rfl rfl (by decide +kernel)) (
  mZ)))))))))))))))))))))))))))))))))))))))))))))))))))
set_option maxRecDepth 20000 in
theorem ok_Re_readTerms : mAll (mOk RX5 cX5_readTerms 3 true false (some .boolean) (mnat p_Re_readTerms)) 0 k_Re_readTerms := mA (i := 0) (ok_ild_n (f := 1) (pc := 0) rfl rfl rfl (by decide +kernel)) (
  mA (i := 1) (ok_ifne (off := 5) (pc := 1) (tgt := 6) rfl rfl rfl (by decide +kernel) (by decide +kernel)) (
  mA (i := 2) (ok_ic (n := 1) (pc := 4) (by decide +kernel) rfl rfl (by decide +kernel)) (
  mA (i := 3) (ok_zret (pc := 5) rfl rfl (by decide +kernel)) (
  mA (i := 4) (ok_ald_n (f := 0) (pc := 6) rfl rfl rfl (by decide +kernel)) (
  mA (i := 5) (ok_bi (n := 40) (pc := 7) (by decide +kernel) rfl rfl (by decide +kernel)) (
  mA (i := 6) (ok_callI (pc := 9) (can_V cal_Re_expect (by decide +kernel) rfl (by decide +kernel) rfl wd_213 wd_214 wd_215 wd_195 (by decide +kernel)) rfl rfl) (
  mA (i := 7) (ok_ifeq (off := 11) (pc := 12) (tgt := 23) rfl rfl rfl (by decide +kernel) (by decide +kernel)) (
  mA (i := 8) (ok_ald_n (f := 0) (pc := 15) rfl rfl rfl (by decide +kernel)) (
  mA (i := 9) (ok_ild_n (f := 2) (pc := 16) rfl rfl rfl (by decide +kernel)) (
  mA (i := 10) (ok_callI (pc := 17) (can_V cal_Re_readTerm (by decide +kernel) rfl (by decide +kernel) rfl wd_216 wd_217 wd_218 wd_195 (by decide +kernel)) rfl rfl) (
  mA (i := 11) (ok_ifne (off := 5) (pc := 20) (tgt := 25) rfl rfl rfl (by decide +kernel) (by decide +kernel)) (
  mA (i := 12) (ok_ic (n := 0) (pc := 23) (by decide +kernel) rfl rfl (by decide +kernel)) (
  mA (i := 13) (ok_zret (pc := 24) rfl rfl (by decide +kernel)) (
  mA (i := 14) (ok_ild_n (f := 1) (pc := 25) rfl rfl rfl (by decide +kernel)) (
  mA (i := 15) (ok_ic (n := 2) (pc := 26) (by decide +kernel) rfl rfl (by decide +kernel)) (
  mA (i := 16) (ok_cne (off := 22) (pc := 27) (tgt := 49) rfl rfl rfl (by decide +kernel) (by decide +kernel)) (
  mA (i := 17) (ok_ald_n (f := 0) (pc := 30) rfl rfl rfl (by decide +kernel)) (
  mA (i := 18) (ok_bi (n := 44) (pc := 31) (by decide +kernel) rfl rfl (by decide +kernel)) (
  mA (i := 19) (ok_callI (pc := 33) (can_V cal_Re_expect (by decide +kernel) rfl (by decide +kernel) rfl wd_213 wd_214 wd_215 wd_195 (by decide +kernel)) rfl rfl) (
  mA (i := 20) (ok_ifeq (off := 11) (pc := 36) (tgt := 47) rfl rfl rfl (by decide +kernel) (by decide +kernel)) (
  mA (i := 21) (ok_ald_n (f := 0) (pc := 39) rfl rfl rfl (by decide +kernel)) (
  mA (i := 22) (ok_ild_n (f := 2) (pc := 40) rfl rfl rfl (by decide +kernel)) (
  mA (i := 23) (ok_callI (pc := 41) (can_V cal_Re_readTerm (by decide +kernel) rfl (by decide +kernel) rfl wd_216 wd_217 wd_218 wd_195 (by decide +kernel)) rfl rfl) (
  mA (i := 24) (ok_ifne (off := 5) (pc := 44) (tgt := 49) rfl rfl rfl (by decide +kernel) (by decide +kernel)) (
  mA (i := 25) (ok_ic (n := 0) (pc := 47) (by decide +kernel) rfl rfl (by decide +kernel)) (
  mA (i := 26) (ok_zret (pc := 48) rfl rfl (by decide +kernel)) (
  mA (i := 27) (ok_ald_n (f := 0) (pc := 49) rfl rfl rfl (by decide +kernel)) (
  mA (i := 28) (ok_bi (n := 41) (pc := 50) (by decide +kernel) rfl rfl (by decide +kernel)) (
  mA (i := 29) (ok_callI (pc := 52) (can_V cal_Re_expect (by decide +kernel) rfl (by decide +kernel) rfl wd_213 wd_214 wd_215 wd_195 (by decide +kernel)) rfl rfl) (
  mA (i := 30) (ok_zret (pc := 55) rfl rfl (by decide +kernel)) (
  mZ)))))))))))))))))))))))))))))))
set_option maxRecDepth 20000 in
theorem ok_Re_readTerm : mAll (mOk RX5 cX5_readTerm 3 true false (some .boolean) (mnat p_Re_readTerm)) 0 k_Re_readTerm := mA (i := 0) (ok_ald_n (f := 0) (pc := 0) rfl rfl rfl (by decide +kernel)) (
  mA (i := 1) (ok_callI (pc := 1) (can_V cal_Re_look (by decide +kernel) rfl (by decide +kernel) rfl wd_201 wd_202 wd_203 wd_195 (by decide +kernel)) rfl rfl) (
  mA (i := 2) (ok_callI (pc := 4) (can_S cal_Re_termCode (by decide +kernel) wd_208 wd_207 wd_195 (by decide +kernel)) rfl rfl) (
  mA (i := 3) (ok_ist_n (f := 2) (pc := 7) rfl (by decide +kernel) rfl rfl rfl (by decide +kernel)) (
  mA (i := 4) (ok_ild_n (f := 2) (pc := 8) rfl rfl rfl (by decide +kernel)) (
  mA (i := 5) (ok_ic (n := (-1)) (pc := 9) (by decide +kernel) rfl rfl (by decide +kernel)) (
  mA (i := 6) (ok_cne (off := 9) (pc := 10) (tgt := 19) rfl rfl rfl (by decide +kernel) (by decide +kernel)) (
  mA (i := 7) (ok_ald_n (f := 0) (pc := 13) rfl rfl rfl (by decide +kernel)) (
  mA (i := 8) (ok_ic (n := 1) (pc := 14) (by decide +kernel) rfl rfl (by decide +kernel)) (
  mA (i := 9) (ok_callI (pc := 15) (can_V cal_Re_fail (by decide +kernel) rfl (by decide +kernel) rfl wd_204 wd_205 wd_206 wd_195 (by decide +kernel)) rfl rfl) (
  mA (i := 10) (ok_zret (pc := 18) rfl rfl (by decide +kernel)) (
  mA (i := 11) (ok_ald_n (f := 0) (pc := 19) rfl rfl rfl (by decide +kernel)) (
  mA (i := 12) (ok_ild_n (f := 2) (pc := 20) rfl rfl rfl (by decide +kernel)) (
  mA (i := 13) (ok_ild_n (f := 1) (pc := 21) rfl rfl rfl (by decide +kernel)) (
  mA (i := 14) (ok_callI (pc := 22) (can_V cal_Re_readSymbol (by decide +kernel) rfl (by decide +kernel) rfl wd_210 wd_211 wd_212 wd_195 (by decide +kernel)) rfl rfl) (
  mA (i := 15) (ok_ifeq (off := 21) (pc := 25) (tgt := 46) rfl rfl rfl (by decide +kernel) (by decide +kernel)) (
  mA (i := 16) (ok_ald_n (f := 0) (pc := 28) rfl rfl rfl (by decide +kernel)) (
  mA (i := 17) (ok_ild_n (f := 2) (pc := 29) rfl rfl rfl (by decide +kernel)) (
  mA (i := 18) (ok_callI (pc := 30) (can_SN cal_C_termsBehind (by decide +kernel) wn_225 wd_74 wd_35 (by decide +kernel)) rfl rfl) (
  mA (i := 19) (ok_ild_n (f := 1) (pc := 33) rfl rfl rfl (by decide +kernel)) (
  mA (i := 20) (ok_ic (n := 1) (pc := 34) (by decide +kernel) rfl rfl (by decide +kernel)) (
  mA (i := 21) (ok_add (pc := 35) rfl rfl (by decide +kernel)) (
  mA (i := 22) (ok_callI (pc := 36) (can_V cal_Re_readTerms (by decide +kernel) rfl (by decide +kernel) rfl wd_222 wd_223 wd_224 wd_195 (by decide +kernel)) rfl rfl) (
  mA (i := 23) (ok_ifeq (off := 7) (pc := 39) (tgt := 46) rfl rfl rfl (by decide +kernel) (by decide +kernel)) (
  mA (i := 24) (ok_ic (n := 1) (pc := 42) (by decide +kernel) rfl rfl (by decide +kernel)) (
  mA (i := 25) (ok_goto (off := 4) (pc := 43) (tgt := 47) rfl rfl (by decide +kernel) (by decide +kernel)) (
  mA (i := 26) (ok_ic (n := 0) (pc := 46) (by decide +kernel) rfl rfl (by decide +kernel)) (
  mA (i := 27) (ok_zret (pc := 47) rfl rfl (by decide +kernel)) (
  mZ))))))))))))))))))))))))))))
set_option maxRecDepth 20000 in
theorem ok_Re_readSymbol : mAll (mOk RX5 cX5_readSymbol 3 true false (some .boolean) (mnat p_Re_readSymbol)) 0 k_Re_readSymbol := mA (i := 0) (ok_ald_n (f := 0) (pc := 0) rfl rfl rfl (by decide +kernel)) (
  mA (i := 1) (ok_gP (pc := 1) rfl (by decide +kernel) wd_188 inw_6 rfl rfl (by decide +kernel)) (
  mA (i := 2) (ok_callI (pc := 4) (can_V cal_Dr_isFull (by decide +kernel) rfl (by decide +kernel) rfl wd_226 wd_227 wd_228 wd_7 (by decide +kernel)) rfl rfl) (
  mA (i := 3) (ok_ifeq (off := 9) (pc := 7) (tgt := 16) rfl rfl rfl (by decide +kernel) (by decide +kernel)) (
  mA (i := 4) (ok_ald_n (f := 0) (pc := 10) rfl rfl rfl (by decide +kernel)) (
  mA (i := 5) (ok_ic (n := 3) (pc := 11) (by decide +kernel) rfl rfl (by decide +kernel)) (
  mA (i := 6) (ok_callI (pc := 12) (can_V cal_Re_fail (by decide +kernel) rfl (by decide +kernel) rfl wd_204 wd_205 wd_206 wd_195 (by decide +kernel)) rfl rfl) (
  mA (i := 7) (ok_zret (pc := 15) rfl rfl (by decide +kernel)) (
  mA (i := 8) (ok_ald_n (f := 0) (pc := 16) rfl rfl rfl (by decide +kernel)) (
  mA (i := 9) (ok_gP (pc := 17) rfl (by decide +kernel) wd_188 inw_6 rfl rfl (by decide +kernel)) (
  mA (i := 10) (ok_ild_n (f := 1) (pc := 20) rfl rfl rfl (by decide +kernel)) (
  mA (i := 11) (ok_ild_n (f := 2) (pc := 21) rfl rfl rfl (by decide +kernel)) (
  mA (i := 12) (ok_callI (pc := 22) (can_V cal_Dr_push (by decide +kernel) rfl (by decide +kernel) rfl wd_229 wd_65 wd_66 wd_7 (by decide +kernel)) rfl rfl) (
  mA (i := 13) (ok_ifne (off := 9) (pc := 25) (tgt := 34) rfl rfl rfl (by decide +kernel) (by decide +kernel)) (
  mA (i := 14) (ok_ald_n (f := 0) (pc := 28) rfl rfl rfl (by decide +kernel)) (
  mA (i := 15) (ok_ic (n := 4) (pc := 29) (by decide +kernel) rfl rfl (by decide +kernel)) (
  mA (i := 16) (ok_callI (pc := 30) (can_V cal_Re_fail (by decide +kernel) rfl (by decide +kernel) rfl wd_204 wd_205 wd_206 wd_195 (by decide +kernel)) rfl rfl) (
  mA (i := 17) (ok_zret (pc := 33) rfl rfl (by decide +kernel)) (
  mA (i := 18) (ok_ald_n (f := 0) (pc := 34) rfl rfl rfl (by decide +kernel)) (
  mA (i := 19) (ok_dup (pc := 35) rfl rfl (by decide +kernel)) (
  mA (i := 20) (ok_gI (pc := 36) rfl (by decide +kernel) wd_200 inw_6 rfl rfl (by decide +kernel)) (
  mA (i := 21) (ok_ic (n := 1) (pc := 39) (by decide +kernel) rfl rfl (by decide +kernel)) (
  mA (i := 22) (ok_add (pc := 40) rfl rfl (by decide +kernel)) (
  mA (i := 23) (ok_pI (pc := 41) rfl (by decide +kernel) wd_200 inw_6 tyX5_ok nmX5 rfl (by decide +kernel) rfl rfl (by decide +kernel)) (
  mA (i := 24) (ok_ic (n := 1) (pc := 44) (by decide +kernel) rfl rfl (by decide +kernel)) (
  mA (i := 25) (ok_zret (pc := 45) rfl rfl (by decide +kernel)) (
  mZ))))))))))))))))))))))))))
set_option maxRecDepth 20000 in
theorem ok_Re_termCode : mAll (mOk RX5 cX5_termCode 1 true false (some .int) (mnat p_Re_termCode)) 0 k_Re_termCode := mA (i := 0) (ok_ild_n (f := 0) (pc := 0) rfl rfl rfl (by decide +kernel)) (
  mA (i := 1) (ok_bi (n := 117) (pc := 1) (by decide +kernel) rfl rfl (by decide +kernel)) (
  mA (i := 2) (ok_clt (off := 17) (pc := 3) (tgt := 20) rfl rfl rfl (by decide +kernel) (by decide +kernel)) (
  mA (i := 3) (ok_ild_n (f := 0) (pc := 6) rfl rfl rfl (by decide +kernel)) (
  mA (i := 4) (ok_bi (n := 122) (pc := 7) (by decide +kernel) rfl rfl (by decide +kernel)) (
  mA (i := 5) (ok_cgt (off := 11) (pc := 9) (tgt := 20) rfl rfl rfl (by decide +kernel) (by decide +kernel)) (
  mA (i := 6) (ok_bi (n := 20) (pc := 12) (by decide +kernel) rfl rfl (by decide +kernel)) (
  mA (i := 7) (ok_ild_n (f := 0) (pc := 14) rfl rfl rfl (by decide +kernel)) (
  mA (i := 8) (ok_add (pc := 15) rfl rfl (by decide +kernel)) (
  mA (i := 9) (ok_bi (n := 117) (pc := 16) (by decide +kernel) rfl rfl (by decide +kernel)) (
  mA (i := 10) (ok_sub (pc := 18) rfl rfl (by decide +kernel)) (
  mA (i := 11) (ok_iret (pc := 19) rfl rfl (by decide +kernel)) (
  mA (i := 12) (ok_ild_n (f := 0) (pc := 20) rfl rfl rfl (by decide +kernel)) (
  mA (i := 13) (ok_bi (n := 102) (pc := 21) (by decide +kernel) rfl rfl (by decide +kernel)) (
  mA (i := 14) (ok_clt (off := 14) (pc := 23) (tgt := 37) rfl rfl rfl (by decide +kernel) (by decide +kernel)) (
  mA (i := 15) (ok_ild_n (f := 0) (pc := 26) rfl rfl rfl (by decide +kernel)) (
  mA (i := 16) (ok_bi (n := 104) (pc := 27) (by decide +kernel) rfl rfl (by decide +kernel)) (
  mA (i := 17) (ok_cgt (off := 8) (pc := 29) (tgt := 37) rfl rfl rfl (by decide +kernel) (by decide +kernel)) (
  mA (i := 18) (ok_ild_n (f := 0) (pc := 32) rfl rfl rfl (by decide +kernel)) (
  mA (i := 19) (ok_bi (n := 102) (pc := 33) (by decide +kernel) rfl rfl (by decide +kernel)) (
  mA (i := 20) (ok_sub (pc := 35) rfl rfl (by decide +kernel)) (
  mA (i := 21) (ok_iret (pc := 36) rfl rfl (by decide +kernel)) (
  mA (i := 22) (ok_ild_n (f := 0) (pc := 37) rfl rfl rfl (by decide +kernel)) (
  mA (i := 23) (ok_bi (n := 97) (pc := 38) (by decide +kernel) rfl rfl (by decide +kernel)) (
  mA (i := 24) (ok_clt (off := 18) (pc := 40) (tgt := 58) rfl rfl rfl (by decide +kernel) (by decide +kernel)) (
  mA (i := 25) (ok_ild_n (f := 0) (pc := 43) rfl rfl rfl (by decide +kernel)) (
  mA (i := 26) (ok_bi (n := 101) (pc := 44) (by decide +kernel) rfl rfl (by decide +kernel)) (
  mA (i := 27) (ok_cgt (off := 12) (pc := 46) (tgt := 58) rfl rfl rfl (by decide +kernel) (by decide +kernel)) (
  mA (i := 28) (ok_ic (n := 3) (pc := 49) (by decide +kernel) rfl rfl (by decide +kernel)) (
  mA (i := 29) (ok_ild_n (f := 0) (pc := 50) rfl rfl rfl (by decide +kernel)) (
  mA (i := 30) (ok_add (pc := 51) rfl rfl (by decide +kernel)) (
  mA (i := 31) (ok_bi (n := 97) (pc := 52) (by decide +kernel) rfl rfl (by decide +kernel)) (
  mA (i := 32) (ok_sub (pc := 54) rfl rfl (by decide +kernel)) (
  mA (i := 33) (ok_goto (off := 4) (pc := 55) (tgt := 59) rfl rfl (by decide +kernel) (by decide +kernel)) (
  mA (i := 34) (ok_ic (n := (-1)) (pc := 58) (by decide +kernel) rfl rfl (by decide +kernel)) (
  mA (i := 35) (ok_iret (pc := 59) rfl rfl (by decide +kernel)) (
  mZ))))))))))))))))))))))))))))))))))))
set_option maxRecDepth 20000 in
theorem ok_Rl_init : mAll (mOk RX6 cX6_init 1 true true none (mnat p_Rl_init)) 0 k_Rl_init := mA (i := 0) (ok_ald_n (f := 0) (pc := 0) rfl rfl rfl (by decide +kernel)) (
  mA (i := 1) (ok_obj (pc := 1) wd_230 wd_1 wd_objc rfl rfl (by decide +kernel)) (
  mA (i := 2) (ok_ald_n (f := 0) (pc := 4) rfl rfl rfl (by decide +kernel)) (
  mA (i := 3) (ok_bi (n := 24) (pc := 5) (by decide +kernel) rfl rfl (by decide +kernel)) (
  mA (i := 4) (ok_newi (pc := 7) wd_2 rfl rfl (by decide +kernel)) (
  mA (i := 5) (ok_pPF (pc := 9) rfl (by decide +kernel) wd_231 inw_7 tyX6_ok nmX6 rfl rfl rfl (tyX6_ok 0 (by decide +kernel)) rfl rfl rfl (by decide +kernel)) (
  mA (i := 6) (ok_ald_n (f := 0) (pc := 12) rfl rfl rfl (by decide +kernel)) (
  mA (i := 7) (ok_bi (n := 24) (pc := 13) (by decide +kernel) rfl rfl (by decide +kernel)) (
  mA (i := 8) (ok_newi (pc := 15) wd_2 rfl rfl (by decide +kernel)) (
  mA (i := 9) (ok_pPF (pc := 17) rfl (by decide +kernel) wd_232 inw_7 tyX6_ok nmX6 rfl rfl rfl (tyX6_ok 1 (by decide +kernel)) rfl rfl rfl (by decide +kernel)) (
  mA (i := 10) (ok_ald_n (f := 0) (pc := 20) rfl rfl rfl (by decide +kernel)) (
  mA (i := 11) (ok_bi (n := 24) (pc := 21) (by decide +kernel) rfl rfl (by decide +kernel)) (
  mA (i := 12) (ok_newi (pc := 23) wd_2 rfl rfl (by decide +kernel)) (
  mA (i := 13) (ok_pPF (pc := 25) rfl (by decide +kernel) wd_233 inw_7 tyX6_ok nmX6 rfl rfl rfl (tyX6_ok 2 (by decide +kernel)) rfl rfl rfl (by decide +kernel)) (
  mA (i := 14) (ok_ald_n (f := 0) (pc := 28) rfl rfl rfl (by decide +kernel)) (
  mA (i := 15) (ok_bi (n := 24) (pc := 29) (by decide +kernel) rfl rfl (by decide +kernel)) (
  mA (i := 16) (ok_newi (pc := 31) wd_2 rfl rfl (by decide +kernel)) (
  mA (i := 17) (ok_pPF (pc := 33) rfl (by decide +kernel) wd_234 inw_7 tyX6_ok nmX6 rfl rfl rfl (tyX6_ok 3 (by decide +kernel)) rfl rfl rfl (by decide +kernel)) (
  mA (i := 18) (ok_vret (pc := 36) rfl rfl (by decide +kernel)) (
  mZ)))))))))))))))))))
set_option maxRecDepth 20000 in
theorem ok_Rl_isKnown : mAll (mOk RX6 cX6_isKnown 1 true false (some .boolean) (mnat p_Rl_isKnown)) 0 k_Rl_isKnown := mA (i := 0) (ok_ald_n (f := 0) (pc := 0) rfl rfl rfl (by decide +kernel)) (
  mA (i := 1) (ok_gI (pc := 1) rfl (by decide +kernel) wd_235 inw_7 rfl rfl (by decide +kernel)) (
  mA (i := 2) (ok_zret (pc := 4) rfl rfl (by decide +kernel)) (
  mZ)))
set_option maxRecDepth 20000 in
theorem ok_Rl_forget : mAll (mOk RX6 cX6_forget 1 true false none (mnat p_Rl_forget)) 0 k_Rl_forget := mA (i := 0) (ok_ald_n (f := 0) (pc := 0) rfl rfl rfl (by decide +kernel)) (
  mA (i := 1) (ok_ic (n := 0) (pc := 1) (by decide +kernel) rfl rfl (by decide +kernel)) (
  mA (i := 2) (ok_pZ (pc := 2) rfl (by decide +kernel) wd_235 inw_7 tyX6_ok nmX6 rfl (by decide +kernel) rfl rfl (by decide +kernel)) (
  mA (i := 3) (ok_vret (pc := 5) rfl rfl (by decide +kernel)) (
  mZ))))
set_option maxRecDepth 20000 in
theorem ok_Rl_begin : mAll (mOk RX6 cX6_begin 3 true false none (mnat p_Rl_begin)) 0 k_Rl_begin := mA (i := 0) (ok_ald_n (f := 0) (pc := 0) rfl rfl rfl (by decide +kernel)) (
  mA (i := 1) (ok_ic (n := 1) (pc := 1) (by decide +kernel) rfl rfl (by decide +kernel)) (
  mA (i := 2) (ok_pZ (pc := 2) rfl (by decide +kernel) wd_235 inw_7 tyX6_ok nmX6 rfl (by decide +kernel) rfl rfl (by decide +kernel)) (
  mA (i := 3) (ok_ald_n (f := 0) (pc := 5) rfl rfl rfl (by decide +kernel)) (
  mA (i := 4) (ok_ild_n (f := 1) (pc := 6) rfl rfl rfl (by decide +kernel)) (
  mA (i := 5) (ok_pI (pc := 7) rfl (by decide +kernel) wd_236 inw_7 tyX6_ok nmX6 rfl (by decide +kernel) rfl rfl (by decide +kernel)) (
  mA (i := 6) (ok_ic (n := 0) (pc := 10) (by decide +kernel) rfl rfl (by decide +kernel)) (
  mA (i := 7) (ok_ist_n (f := 2) (pc := 11) rfl (by decide +kernel) rfl rfl rfl (by decide +kernel)) (
  mA (i := 8) (ok_ild_n (f := 2) (pc := 12) rfl rfl rfl (by decide +kernel)) (
  mA (i := 9) (ok_bi (n := 24) (pc := 13) (by decide +kernel) rfl rfl (by decide +kernel)) (
  mA (i := 10) (ok_cge (off := 23) (pc := 15) (tgt := 38) rfl rfl rfl (by decide +kernel) (by decide +kernel)) (
  mA (i := 11) (ok_ald_n (f := 0) (pc := 18) rfl rfl rfl (by decide +kernel)) (
  mA (i := 12) (ok_gP (pc := 19) rfl (by decide +kernel) wd_231 inw_7 rfl rfl (by decide +kernel)) (
  mA (i := 13) (ok_ild_n (f := 2) (pc := 22) rfl rfl rfl (by decide +kernel)) (
  mA (i := 14) (ok_ic (n := 0) (pc := 23) (by decide +kernel) rfl rfl (by decide +kernel)) (
  mA (i := 15) (ok_iast (pc := 24) rfl rfl (by decide +kernel)) (
  mA (i := 16) (ok_ald_n (f := 0) (pc := 25) rfl rfl rfl (by decide +kernel)) (
  mA (i := 17) (ok_gP (pc := 26) rfl (by decide +kernel) wd_232 inw_7 rfl rfl (by decide +kernel)) (
  mA (i := 18) (ok_ild_n (f := 2) (pc := 29) rfl rfl rfl (by decide +kernel)) (
  mA (i := 19) (ok_ic (n := 0) (pc := 30) (by decide +kernel) rfl rfl (by decide +kernel)) (
  mA (i := 20) (ok_iast (pc := 31) rfl rfl (by decide +kernel)) (
  mA (i := 21) (ok_inc (z := 1) (pc := 32) (by decide +kernel) (by decide +kernel) rfl rfl rfl (by decide +kernel)) (
  mA (i := 22) (ok_goto (off := (-23)) (pc := 35) (tgt := 12) rfl rfl (by decide +kernel) (by decide +kernel)) (
  mA (i := 23) (ok_vret (pc := 38) rfl rfl (by decide +kernel)) (
  mZ))))))))))))))))))))))))
set_option maxRecDepth 20000 in
theorem ok_Rl_note : mAll (mOk RX6 cX6_note 3 true false none (mnat p_Rl_note)) 0 k_Rl_note := mA (i := 0) (ok_ild_n (f := 1) (pc := 0) rfl rfl rfl (by decide +kernel)) (
  mA (i := 1) (ok_iflt (off := 43) (pc := 1) (tgt := 44) rfl rfl rfl (by decide +kernel) (by decide +kernel)) (
  mA (i := 2) (ok_ild_n (f := 1) (pc := 4) rfl rfl rfl (by decide +kernel)) (
  mA (i := 3) (ok_bi (n := 24) (pc := 5) (by decide +kernel) rfl rfl (by decide +kernel)) (
  mA (i := 4) (ok_cge (off := 37) (pc := 7) (tgt := 44) rfl rfl rfl (by decide +kernel) (by decide +kernel)) (
  mA (i := 5) (ok_ild_n (f := 2) (pc := 10) rfl rfl rfl (by decide +kernel)) (
  mA (i := 6) (ok_iflt (off := 33) (pc := 11) (tgt := 44) rfl rfl rfl (by decide +kernel) (by decide +kernel)) (
  mA (i := 7) (ok_ild_n (f := 2) (pc := 14) rfl rfl rfl (by decide +kernel)) (
  mA (i := 8) (ok_bi (n := 24) (pc := 15) (by decide +kernel) rfl rfl (by decide +kernel)) (
  mA (i := 9) (ok_cge (off := 27) (pc := 17) (tgt := 44) rfl rfl rfl (by decide +kernel) (by decide +kernel)) (
  mA (i := 10) (ok_ald_n (f := 0) (pc := 20) rfl rfl rfl (by decide +kernel)) (
  mA (i := 11) (ok_gP (pc := 21) rfl (by decide +kernel) wd_231 inw_7 rfl rfl (by decide +kernel)) (
  mA (i := 12) (ok_ild_n (f := 1) (pc := 24) rfl rfl rfl (by decide +kernel)) (
  mA (i := 13) (ok_dup2 (pc := 25) rfl rfl (by decide +kernel)) (
  mA (i := 14) (ok_iald (pc := 26) rfl rfl (by decide +kernel)) (
  mA (i := 15) (ok_ic (n := 1) (pc := 27) (by decide +kernel) rfl rfl (by decide +kernel)) (
  mA (i := 16) (ok_ild_n (f := 2) (pc := 28) rfl rfl rfl (by decide +kernel)) (
  mA (i := 17) (ok_shl (pc := 29) rfl rfl (by decide +kernel)) (
  mA (i := 18) (ok_or (pc := 30) rfl rfl (by decide +kernel)) (
  mA (i := 19) (ok_iast (pc := 31) rfl rfl (by decide +kernel)) (
  mA (i := 20) (ok_ald_n (f := 0) (pc := 32) rfl rfl rfl (by decide +kernel)) (
  mA (i := 21) (ok_gP (pc := 33) rfl (by decide +kernel) wd_232 inw_7 rfl rfl (by decide +kernel)) (
  mA (i := 22) (ok_ild_n (f := 2) (pc := 36) rfl rfl rfl (by decide +kernel)) (
  mA (i := 23) (ok_dup2 (pc := 37) rfl rfl (by decide +kernel)) (
  mA (i := 24) (ok_iald (pc := 38) rfl rfl (by decide +kernel)) (
  mA (i := 25) (ok_ic (n := 1) (pc := 39) (by decide +kernel) rfl rfl (by decide +kernel)) (
  mA (i := 26) (ok_ild_n (f := 1) (pc := 40) rfl rfl rfl (by decide +kernel)) (
  mA (i := 27) (ok_shl (pc := 41) rfl rfl (by decide +kernel)) (
  mA (i := 28) (ok_or (pc := 42) rfl rfl (by decide +kernel)) (
  mA (i := 29) (ok_iast (pc := 43) rfl rfl (by decide +kernel)) (
  mA (i := 30) (ok_vret (pc := 44) rfl rfl (by decide +kernel)) (
  mZ)))))))))))))))))))))))))))))))
set_option maxRecDepth 20000 in
theorem ok_Rl_size : mAll (mOk RX6 cX6_size 3 true false (some .int) (mnat p_Rl_size)) 0 k_Rl_size := mA (i := 0) (ok_ic (n := 0) (pc := 0) (by decide +kernel) rfl rfl (by decide +kernel)) (
  mA (i := 1) (ok_ist_n (f := 1) (pc := 1) rfl (by decide +kernel) rfl rfl rfl (by decide +kernel)) (
  mA (i := 2) (ok_ic (n := 0) (pc := 2) (by decide +kernel) rfl rfl (by decide +kernel)) (
  mA (i := 3) (ok_ist_n (f := 2) (pc := 3) rfl (by decide +kernel) rfl rfl rfl (by decide +kernel)) (
  mA (i := 4) (ok_ild_n (f := 2) (pc := 4) rfl rfl rfl (by decide +kernel)) (
  mA (i := 5) (ok_bi (n := 24) (pc := 5) (by decide +kernel) rfl rfl (by decide +kernel)) (
  mA (i := 6) (ok_cge (off := 21) (pc := 7) (tgt := 28) rfl rfl rfl (by decide +kernel) (by decide +kernel)) (
  mA (i := 7) (ok_ild_n (f := 1) (pc := 10) rfl rfl rfl (by decide +kernel)) (
  mA (i := 8) (ok_ald_n (f := 0) (pc := 11) rfl rfl rfl (by decide +kernel)) (
  mA (i := 9) (ok_gP (pc := 12) rfl (by decide +kernel) wd_231 inw_7 rfl rfl (by decide +kernel)) (
  mA (i := 10) (ok_ild_n (f := 2) (pc := 15) rfl rfl rfl (by decide +kernel)) (
  mA (i := 11) (ok_iald (pc := 16) rfl rfl (by decide +kernel)) (
  mA (i := 12) (ok_callI (pc := 17) (can_S cal_Ji_bitCount (by decide +kernel) wd_237 wd_179 wd_180 (by decide +kernel)) rfl rfl) (
  mA (i := 13) (ok_add (pc := 20) rfl rfl (by decide +kernel)) (
  mA (i := 14) (ok_ist_n (f := 1) (pc := 21) rfl (by decide +kernel) rfl rfl rfl (by decide +kernel)) (
  mA (i := 15) (ok_inc (z := 1) (pc := 22) (by decide +kernel) (by decide +kernel) rfl rfl rfl (by decide +kernel)) (
  mA (i := 16) (ok_goto (off := (-21)) (pc := 25) (tgt := 4) rfl rfl (by decide +kernel) (by decide +kernel)) (
  mA (i := 17) (ok_ild_n (f := 1) (pc := 28) rfl rfl rfl (by decide +kernel)) (
  mA (i := 18) (ok_iret (pc := 29) rfl rfl (by decide +kernel)) (
  mZ)))))))))))))))))))
set_option maxRecDepth 20000 in
theorem ok_Rl_spareOnes : mAll (mOk RX6 cX6_spareOnes 4 true false (some .int) (mnat p_Rl_spareOnes)) 0 k_Rl_spareOnes := mA (i := 0) (ok_ic (n := 0) (pc := 0) (by decide +kernel) rfl rfl (by decide +kernel)) (
  mA (i := 1) (ok_ist_n (f := 1) (pc := 1) rfl (by decide +kernel) rfl rfl rfl (by decide +kernel)) (
  mA (i := 2) (ok_ic (n := 0) (pc := 2) (by decide +kernel) rfl rfl (by decide +kernel)) (
  mA (i := 3) (ok_ist_n (f := 2) (pc := 3) rfl (by decide +kernel) rfl rfl rfl (by decide +kernel)) (
  mA (i := 4) (ok_ild_n (f := 2) (pc := 4) rfl rfl rfl (by decide +kernel)) (
  mA (i := 5) (ok_bi (n := 24) (pc := 5) (by decide +kernel) rfl rfl (by decide +kernel)) (
  mA (i := 6) (ok_cge (off := 41) (pc := 7) (tgt := 48) rfl rfl rfl (by decide +kernel) (by decide +kernel)) (
  mA (i := 7) (ok_ic (n := 1) (pc := 10) (by decide +kernel) rfl rfl (by decide +kernel)) (
  mA (i := 8) (ok_ild_n (f := 2) (pc := 11) rfl rfl rfl (by decide +kernel)) (
  mA (i := 9) (ok_shl (pc := 12) rfl rfl (by decide +kernel)) (
  mA (i := 10) (ok_ic (n := 1) (pc := 13) (by decide +kernel) rfl rfl (by decide +kernel)) (
  mA (i := 11) (ok_sub (pc := 14) rfl rfl (by decide +kernel)) (
  mA (i := 12) (ok_ist_n (f := 3) (pc := 15) rfl (by decide +kernel) rfl rfl rfl (by decide +kernel)) (
  mA (i := 13) (ok_ald_n (f := 0) (pc := 16) rfl rfl rfl (by decide +kernel)) (
  mA (i := 14) (ok_gP (pc := 17) rfl (by decide +kernel) wd_232 inw_7 rfl rfl (by decide +kernel)) (
  mA (i := 15) (ok_ild_n (f := 2) (pc := 20) rfl rfl rfl (by decide +kernel)) (
  mA (i := 16) (ok_iald (pc := 21) rfl rfl (by decide +kernel)) (
  mA (i := 17) (ok_ald_n (f := 0) (pc := 22) rfl rfl rfl (by decide +kernel)) (
  mA (i := 18) (ok_gP (pc := 23) rfl (by decide +kernel) wd_231 inw_7 rfl rfl (by decide +kernel)) (
  mA (i := 19) (ok_ild_n (f := 2) (pc := 26) rfl rfl rfl (by decide +kernel)) (
  mA (i := 20) (ok_iald (pc := 27) rfl rfl (by decide +kernel)) (
  mA (i := 21) (ok_ic (n := (-1)) (pc := 28) (by decide +kernel) rfl rfl (by decide +kernel)) (
  mA (i := 22) (ok_xor (pc := 29) rfl rfl (by decide +kernel)) (
  mA (i := 23) (ok_ild_n (f := 3) (pc := 30) rfl rfl rfl (by decide +kernel)) (
  mA (i := 24) (ok_or (pc := 31) rfl rfl (by decide +kernel)) (
  mA (i := 25) (ok_and (pc := 32) rfl rfl (by decide +kernel)) (
  mA (i := 26) (ok_ifeq (off := 9) (pc := 33) (tgt := 42) rfl rfl rfl (by decide +kernel) (by decide +kernel)) (
  mA (i := 27) (ok_ild_n (f := 1) (pc := 36) rfl rfl rfl (by decide +kernel)) (
  mA (i := 28) (ok_ic (n := 1) (pc := 37) (by decide +kernel) rfl rfl (by decide +kernel)) (
  mA (i := 29) (ok_ild_n (f := 2) (pc := 38) rfl rfl rfl (by decide +kernel)) (
  mA (i := 30) (ok_shl (pc := 39) rfl rfl (by decide +kernel)) (
  mA (i := 31) (ok_or (pc := 40) rfl rfl (by decide +kernel)) (
  mA (i := 32) (ok_ist_n (f := 1) (pc := 41) rfl (by decide +kernel) rfl rfl rfl (by decide +kernel)) (
  mA (i := 33) (ok_inc (z := 1) (pc := 42) (by decide +kernel) (by decide +kernel) rfl rfl rfl (by decide +kernel)) (
  mA (i := 34) (ok_goto (off := (-41)) (pc := 45) (tgt := 4) rfl rfl (by decide +kernel) (by decide +kernel)) (
  mA (i := 35) (ok_ild_n (f := 1) (pc := 48) rfl rfl rfl (by decide +kernel)) (
  mA (i := 36) (ok_iret (pc := 49) rfl rfl (by decide +kernel)) (
  mZ)))))))))))))))))))))))))))))))))))))
set_option maxRecDepth 20000 in
theorem ok_Rl_mostGeneral : mAll (mOk RX6 cX6_mostGeneral 3 true false (some .int) (mnat p_Rl_mostGeneral)) 0 k_Rl_mostGeneral := mA (i := 0) (ok_ic (n := 0) (pc := 0) (by decide +kernel) rfl rfl (by decide +kernel)) (
  mA (i := 1) (ok_ist_n (f := 1) (pc := 1) rfl (by decide +kernel) rfl rfl rfl (by decide +kernel)) (
  mA (i := 2) (ok_ic (n := 0) (pc := 2) (by decide +kernel) rfl rfl (by decide +kernel)) (
  mA (i := 3) (ok_ist_n (f := 2) (pc := 3) rfl (by decide +kernel) rfl rfl rfl (by decide +kernel)) (
  mA (i := 4) (ok_ild_n (f := 2) (pc := 4) rfl rfl rfl (by decide +kernel)) (
  mA (i := 5) (ok_bi (n := 24) (pc := 5) (by decide +kernel) rfl rfl (by decide +kernel)) (
  mA (i := 6) (ok_cge (off := 45) (pc := 7) (tgt := 52) rfl rfl rfl (by decide +kernel) (by decide +kernel)) (
  mA (i := 7) (ok_ald_n (f := 0) (pc := 10) rfl rfl rfl (by decide +kernel)) (
  mA (i := 8) (ok_gI (pc := 11) rfl (by decide +kernel) wd_236 inw_7 rfl rfl (by decide +kernel)) (
  mA (i := 9) (ok_ild_n (f := 2) (pc := 14) rfl rfl rfl (by decide +kernel)) (
  mA (i := 10) (ok_shr (pc := 15) rfl rfl (by decide +kernel)) (
  mA (i := 11) (ok_ic (n := 1) (pc := 16) (by decide +kernel) rfl rfl (by decide +kernel)) (
  mA (i := 12) (ok_and (pc := 17) rfl rfl (by decide +kernel)) (
  mA (i := 13) (ok_ic (n := 1) (pc := 18) (by decide +kernel) rfl rfl (by decide +kernel)) (
  mA (i := 14) (ok_cne (off := 27) (pc := 19) (tgt := 46) rfl rfl rfl (by decide +kernel) (by decide +kernel)) (
  mA (i := 15) (ok_ald_n (f := 0) (pc := 22) rfl rfl rfl (by decide +kernel)) (
  mA (i := 16) (ok_gP (pc := 23) rfl (by decide +kernel) wd_232 inw_7 rfl rfl (by decide +kernel)) (
  mA (i := 17) (ok_ild_n (f := 2) (pc := 26) rfl rfl rfl (by decide +kernel)) (
  mA (i := 18) (ok_iald (pc := 27) rfl rfl (by decide +kernel)) (
  mA (i := 19) (ok_ald_n (f := 0) (pc := 28) rfl rfl rfl (by decide +kernel)) (
  mA (i := 20) (ok_gP (pc := 29) rfl (by decide +kernel) wd_231 inw_7 rfl rfl (by decide +kernel)) (
  mA (i := 21) (ok_ild_n (f := 2) (pc := 32) rfl rfl rfl (by decide +kernel)) (
  mA (i := 22) (ok_iald (pc := 33) rfl rfl (by decide +kernel)) (
  mA (i := 23) (ok_ic (n := (-1)) (pc := 34) (by decide +kernel) rfl rfl (by decide +kernel)) (
  mA (i := 24) (ok_xor (pc := 35) rfl rfl (by decide +kernel)) (
  mA (i := 25) (ok_and (pc := 36) rfl rfl (by decide +kernel)) (
  mA (i := 26) (ok_ifne (off := 9) (pc := 37) (tgt := 46) rfl rfl rfl (by decide +kernel) (by decide +kernel)) (
  mA (i := 27) (ok_ild_n (f := 1) (pc := 40) rfl rfl rfl (by decide +kernel)) (
  mA (i := 28) (ok_ic (n := 1) (pc := 41) (by decide +kernel) rfl rfl (by decide +kernel)) (
  mA (i := 29) (ok_ild_n (f := 2) (pc := 42) rfl rfl rfl (by decide +kernel)) (
  mA (i := 30) (ok_shl (pc := 43) rfl rfl (by decide +kernel)) (
  mA (i := 31) (ok_or (pc := 44) rfl rfl (by decide +kernel)) (
  mA (i := 32) (ok_ist_n (f := 1) (pc := 45) rfl (by decide +kernel) rfl rfl rfl (by decide +kernel)) (
  mA (i := 33) (ok_inc (z := 1) (pc := 46) (by decide +kernel) (by decide +kernel) rfl rfl rfl (by decide +kernel)) (
  mA (i := 34) (ok_goto (off := (-45)) (pc := 49) (tgt := 4) rfl rfl (by decide +kernel) (by decide +kernel)) (
  mA (i := 35) (ok_ild_n (f := 1) (pc := 52) rfl rfl rfl (by decide +kernel)) (
  mA (i := 36) (ok_iret (pc := 53) rfl rfl (by decide +kernel)) (
  mZ)))))))))))))))))))))))))))))))))))))
set_option maxRecDepth 20000 in
theorem ok_Rl_classes : mAll (mOk RX6 cX6_classes 4 true false (some .int) (mnat p_Rl_classes)) 0 k_Rl_classes := mA (i := 0) (ok_ic (n := 0) (pc := 0) (by decide +kernel) rfl rfl (by decide +kernel)) (
  mA (i := 1) (ok_ist_n (f := 1) (pc := 1) rfl (by decide +kernel) rfl rfl rfl (by decide +kernel)) (
  mA (i := 2) (ok_ic (n := 0) (pc := 2) (by decide +kernel) rfl rfl (by decide +kernel)) (
  mA (i := 3) (ok_ist_n (f := 2) (pc := 3) rfl (by decide +kernel) rfl rfl rfl (by decide +kernel)) (
  mA (i := 4) (ok_ild_n (f := 2) (pc := 4) rfl rfl rfl (by decide +kernel)) (
  mA (i := 5) (ok_bi (n := 24) (pc := 5) (by decide +kernel) rfl rfl (by decide +kernel)) (
  mA (i := 6) (ok_cge (off := 48) (pc := 7) (tgt := 55) rfl rfl rfl (by decide +kernel) (by decide +kernel)) (
  mA (i := 7) (ok_ic (n := 1) (pc := 10) (by decide +kernel) rfl rfl (by decide +kernel)) (
  mA (i := 8) (ok_ild_n (f := 2) (pc := 11) rfl rfl rfl (by decide +kernel)) (
  mA (i := 9) (ok_shl (pc := 12) rfl rfl (by decide +kernel)) (
  mA (i := 10) (ok_ic (n := 1) (pc := 13) (by decide +kernel) rfl rfl (by decide +kernel)) (
  mA (i := 11) (ok_sub (pc := 14) rfl rfl (by decide +kernel)) (
  mA (i := 12) (ok_ist_n (f := 3) (pc := 15) rfl (by decide +kernel) rfl rfl rfl (by decide +kernel)) (
  mA (i := 13) (ok_ald_n (f := 0) (pc := 16) rfl rfl rfl (by decide +kernel)) (
  mA (i := 14) (ok_gI (pc := 17) rfl (by decide +kernel) wd_236 inw_7 rfl rfl (by decide +kernel)) (
  mA (i := 15) (ok_ild_n (f := 2) (pc := 20) rfl rfl rfl (by decide +kernel)) (
  mA (i := 16) (ok_shr (pc := 21) rfl rfl (by decide +kernel)) (
  mA (i := 17) (ok_ic (n := 1) (pc := 22) (by decide +kernel) rfl rfl (by decide +kernel)) (
  mA (i := 18) (ok_and (pc := 23) rfl rfl (by decide +kernel)) (
  mA (i := 19) (ok_ic (n := 1) (pc := 24) (by decide +kernel) rfl rfl (by decide +kernel)) (
  mA (i := 20) (ok_cne (off := 24) (pc := 25) (tgt := 49) rfl rfl rfl (by decide +kernel) (by decide +kernel)) (
  mA (i := 21) (ok_ald_n (f := 0) (pc := 28) rfl rfl rfl (by decide +kernel)) (
  mA (i := 22) (ok_gP (pc := 29) rfl (by decide +kernel) wd_231 inw_7 rfl rfl (by decide +kernel)) (
  mA (i := 23) (ok_ild_n (f := 2) (pc := 32) rfl rfl rfl (by decide +kernel)) (
  mA (i := 24) (ok_iald (pc := 33) rfl rfl (by decide +kernel)) (
  mA (i := 25) (ok_ald_n (f := 0) (pc := 34) rfl rfl rfl (by decide +kernel)) (
  mA (i := 26) (ok_gP (pc := 35) rfl (by decide +kernel) wd_232 inw_7 rfl rfl (by decide +kernel)) (
  mA (i := 27) (ok_ild_n (f := 2) (pc := 38) rfl rfl rfl (by decide +kernel)) (
  mA (i := 28) (ok_iald (pc := 39) rfl rfl (by decide +kernel)) (
  mA (i := 29) (ok_and (pc := 40) rfl rfl (by decide +kernel)) (
  mA (i := 30) (ok_ild_n (f := 3) (pc := 41) rfl rfl rfl (by decide +kernel)) (
  mA (i := 31) (ok_and (pc := 42) rfl rfl (by decide +kernel)) (
  mA (i := 32) (ok_ifne (off := 6) (pc := 43) (tgt := 49) rfl rfl rfl (by decide +kernel) (by decide +kernel)) (
  mA (i := 33) (ok_inc (z := 1) (pc := 46) (by decide +kernel) (by decide +kernel) rfl rfl rfl (by decide +kernel)) (
  mA (i := 34) (ok_inc (z := 1) (pc := 49) (by decide +kernel) (by decide +kernel) rfl rfl rfl (by decide +kernel)) (
  mA (i := 35) (ok_goto (off := (-48)) (pc := 52) (tgt := 4) rfl rfl (by decide +kernel) (by decide +kernel)) (
  mA (i := 36) (ok_ild_n (f := 1) (pc := 55) rfl rfl rfl (by decide +kernel)) (
  mA (i := 37) (ok_iret (pc := 56) rfl rfl (by decide +kernel)) (
  mZ))))))))))))))))))))))))))))))))))))))
set_option maxRecDepth 20000 in
theorem ok_Rl_layLongestRow : mAll (mOk RX6 cX6_layLongestRow 5 true false (some .int) (mnat p_Rl_layLongestRow)) 0 k_Rl_layLongestRow := mA (i := 0) (ok_ald_n (f := 0) (pc := 0) rfl rfl rfl (by decide +kernel)) (
  mA (i := 1) (ok_callV (pc := 1) (can_V cal_Rl_measureRows (by decide +kernel) rfl (by decide +kernel) rfl wd_238 wd_239 wd_240 wd_241 (by decide +kernel)) rfl rfl) (
  mA (i := 2) (ok_ald_n (f := 0) (pc := 4) rfl rfl rfl (by decide +kernel)) (
  mA (i := 3) (ok_gI (pc := 5) rfl (by decide +kernel) wd_236 inw_7 rfl rfl (by decide +kernel)) (
  mA (i := 4) (ok_ist_n (f := 1) (pc := 8) rfl (by decide +kernel) rfl rfl rfl (by decide +kernel)) (
  mA (i := 5) (ok_ic (n := 0) (pc := 9) (by decide +kernel) rfl rfl (by decide +kernel)) (
  mA (i := 6) (ok_ist_n (f := 2) (pc := 10) rfl (by decide +kernel) rfl rfl rfl (by decide +kernel)) (
  mA (i := 7) (ok_ic (n := 0) (pc := 11) (by decide +kernel) rfl rfl (by decide +kernel)) (
  mA (i := 8) (ok_ist_n (f := 3) (pc := 12) rfl (by decide +kernel) rfl rfl rfl (by decide +kernel)) (
  mA (i := 9) (ok_ild_n (f := 3) (pc := 13) rfl rfl rfl (by decide +kernel)) (
  mA (i := 10) (ok_bi (n := 24) (pc := 14) (by decide +kernel) rfl rfl (by decide +kernel)) (
  mA (i := 11) (ok_cge (off := 49) (pc := 16) (tgt := 65) rfl rfl rfl (by decide +kernel) (by decide +kernel)) (
  mA (i := 12) (ok_ild_n (f := 1) (pc := 19) rfl rfl rfl (by decide +kernel)) (
  mA (i := 13) (ok_ifeq (off := 45) (pc := 20) (tgt := 65) rfl rfl rfl (by decide +kernel) (by decide +kernel)) (
  mA (i := 14) (ok_ald_n (f := 0) (pc := 23) rfl rfl rfl (by decide +kernel)) (
  mA (i := 15) (ok_ild_n (f := 1) (pc := 24) rfl rfl rfl (by decide +kernel)) (
  mA (i := 16) (ok_callI (pc := 25) (can_V cal_Rl_firstOfLongest (by decide +kernel) rfl (by decide +kernel) rfl wd_242 wd_243 wd_244 wd_241 (by decide +kernel)) rfl rfl) (
  mA (i := 17) (ok_ist (pc := 28) (by decide +kernel) rfl rfl rfl (by decide +kernel)) (
  mA (i := 18) (ok_ald_n (f := 0) (pc := 30) rfl rfl rfl (by decide +kernel)) (
  mA (i := 19) (ok_gP (pc := 31) rfl (by decide +kernel) wd_234 inw_7 rfl rfl (by decide +kernel)) (
  mA (i := 20) (ok_ild_n (f := 3) (pc := 34) rfl rfl rfl (by decide +kernel)) (
  mA (i := 21) (ok_ild (pc := 35) rfl rfl (by decide +kernel)) (
  mA (i := 22) (ok_iast (pc := 37) rfl rfl (by decide +kernel)) (
  mA (i := 23) (ok_inc (z := 1) (pc := 38) (by decide +kernel) (by decide +kernel) rfl rfl rfl (by decide +kernel)) (
  mA (i := 24) (ok_ald_n (f := 0) (pc := 41) rfl rfl rfl (by decide +kernel)) (
  mA (i := 25) (ok_gP (pc := 42) rfl (by decide +kernel) wd_231 inw_7 rfl rfl (by decide +kernel)) (
  mA (i := 26) (ok_ild (pc := 45) rfl rfl (by decide +kernel)) (
  mA (i := 27) (ok_iald (pc := 47) rfl rfl (by decide +kernel)) (
  mA (i := 28) (ok_ald_n (f := 0) (pc := 48) rfl rfl rfl (by decide +kernel)) (
  mA (i := 29) (ok_gP (pc := 49) rfl (by decide +kernel) wd_232 inw_7 rfl rfl (by decide +kernel)) (
  mA (i := 30) (ok_ild (pc := 52) rfl rfl (by decide +kernel)) (
  mA (i := 31) (ok_iald (pc := 54) rfl rfl (by decide +kernel)) (
  mA (i := 32) (ok_ic (n := (-1)) (pc := 55) (by decide +kernel) rfl rfl (by decide +kernel)) (
  mA (i := 33) (ok_xor (pc := 56) rfl rfl (by decide +kernel)) (
  mA (i := 34) (ok_and (pc := 57) rfl rfl (by decide +kernel)) (
  mA (i := 35) (ok_ist_n (f := 1) (pc := 58) rfl (by decide +kernel) rfl rfl rfl (by decide +kernel)) (
  mA (i := 36) (ok_inc (z := 1) (pc := 59) (by decide +kernel) (by decide +kernel) rfl rfl rfl (by decide +kernel)) (
  mA (i := 37) (ok_goto (off := (-49)) (pc := 62) (tgt := 13) rfl rfl (by decide +kernel) (by decide +kernel)) (
  mA (i := 38) (ok_ild_n (f := 2) (pc := 65) rfl rfl rfl (by decide +kernel)) (
  mA (i := 39) (ok_iret (pc := 66) rfl rfl (by decide +kernel)) (
  mZ))))))))))))))))))))))))))))))))))))))))
set_option maxRecDepth 20000 in
theorem ok_Rl_inRow : mAll (mOk RX6 cX6_inRow 2 true false (some .int) (mnat p_Rl_inRow)) 0 k_Rl_inRow := mA (i := 0) (ok_ild_n (f := 1) (pc := 0) rfl rfl rfl (by decide +kernel)) (
  mA (i := 1) (ok_iflt (off := 18) (pc := 1) (tgt := 19) rfl rfl rfl (by decide +kernel) (by decide +kernel)) (
  mA (i := 2) (ok_ild_n (f := 1) (pc := 4) rfl rfl rfl (by decide +kernel)) (
  mA (i := 3) (ok_bi (n := 24) (pc := 5) (by decide +kernel) rfl rfl (by decide +kernel)) (
  mA (i := 4) (ok_cge (off := 12) (pc := 7) (tgt := 19) rfl rfl rfl (by decide +kernel) (by decide +kernel)) (
  mA (i := 5) (ok_ald_n (f := 0) (pc := 10) rfl rfl rfl (by decide +kernel)) (
  mA (i := 6) (ok_gP (pc := 11) rfl (by decide +kernel) wd_234 inw_7 rfl rfl (by decide +kernel)) (
  mA (i := 7) (ok_ild_n (f := 1) (pc := 14) rfl rfl rfl (by decide +kernel)) (
  mA (i := 8) (ok_iald (pc := 15) rfl rfl (by decide +kernel)) (
  mA (i := 9) (ok_goto (off := 4) (pc := 16) (tgt := 20) rfl rfl (by decide +kernel) (by decide +kernel)) (
  mA (i := 10) (ok_ic (n := (-1)) (pc := 19) (by decide +kernel) rfl rfl (by decide +kernel)) (
  mA (i := 11) (ok_iret (pc := 20) rfl rfl (by decide +kernel)) (
  mZ))))))))))))
set_option maxRecDepth 20000 in
theorem ok_Rl_measureRows_t60 : mAll (mOk RX6 cX6_measureRows 6 true false none (mnat p_Rl_measureRows)) 60 [o_gP 7 2, o_ild 3, o_ild 5, o_iast, o_ic (nI 1), o_ist 1, o_inc 3 (nI 1), o_goto 25, o_inc 2 (nI 1), o_goto 16, o_vret] := mA (i := 60) (ok_gP (pc := 98) rfl (by decide +kernel) wd_233 inw_7 rfl rfl (by decide +kernel)) (
  mA (i := 61) (ok_ild_n (f := 3) (pc := 101) rfl rfl rfl (by decide +kernel)) (
  mA (i := 62) (ok_ild (pc := 102) rfl rfl (by decide +kernel)) (
  mA (i := 63) (ok_iast (pc := 104) rfl rfl (by decide +kernel)) (
  mA (i := 64) (ok_ic (n := 1) (pc := 105) (by decide +kernel) rfl rfl (by decide +kernel)) (
  mA (i := 65) (ok_ist_n (f := 1) (pc := 106) rfl (by decide +kernel) rfl rfl rfl (by decide +kernel)) (
  mA (i := 66) (ok_inc (z := 1) (pc := 107) (by decide +kernel) (by decide +kernel) rfl rfl rfl (by decide +kernel)) (
  mA (i := 67) (ok_goto (off := (-71)) (pc := 110) (tgt := 39) rfl rfl (by decide +kernel) (by decide +kernel)) (
  mA (i := 68) (ok_inc (z := 1) (pc := 113) (by decide +kernel) (by decide +kernel) rfl rfl rfl (by decide +kernel)) (
  mA (i := 69) (ok_goto (off := (-91)) (pc := 116) (tgt := 25) rfl rfl (by decide +kernel) (by decide +kernel)) (
  mA (i := 70) (ok_vret (pc := 119) rfl rfl (by decide +kernel)) (
  mZ)))))))))))
set_option maxRecDepth 20000 in
theorem ok_Rl_measureRows : mAll (mOk RX6 cX6_measureRows 6 true false none (mnat p_Rl_measureRows)) 0 k_Rl_measureRows := mA (i := 0) (ok_ic (n := 0) (pc := 0) (by decide +kernel) rfl rfl (by decide +kernel)) (
  mA (i := 1) (ok_ist_n (f := 1) (pc := 1) rfl (by decide +kernel) rfl rfl rfl (by decide +kernel)) (
  mA (i := 2) (ok_ild_n (f := 1) (pc := 2) rfl rfl rfl (by decide +kernel)) (
  mA (i := 3) (ok_bi (n := 24) (pc := 3) (by decide +kernel) rfl rfl (by decide +kernel)) (
  mA (i := 4) (ok_cge (off := 16) (pc := 5) (tgt := 21) rfl rfl rfl (by decide +kernel) (by decide +kernel)) (
  mA (i := 5) (ok_ald_n (f := 0) (pc := 8) rfl rfl rfl (by decide +kernel)) (
  mA (i := 6) (ok_gP (pc := 9) rfl (by decide +kernel) wd_233 inw_7 rfl rfl (by decide +kernel)) (
  mA (i := 7) (ok_ild_n (f := 1) (pc := 12) rfl rfl rfl (by decide +kernel)) (
  mA (i := 8) (ok_ic (n := 1) (pc := 13) (by decide +kernel) rfl rfl (by decide +kernel)) (
  mA (i := 9) (ok_iast (pc := 14) rfl rfl (by decide +kernel)) (
  mA (i := 10) (ok_inc (z := 1) (pc := 15) (by decide +kernel) (by decide +kernel) rfl rfl rfl (by decide +kernel)) (
  mA (i := 11) (ok_goto (off := (-16)) (pc := 18) (tgt := 2) rfl rfl (by decide +kernel) (by decide +kernel)) (
  mA (i := 12) (ok_ic (n := 1) (pc := 21) (by decide +kernel) rfl rfl (by decide +kernel)) (
  mA (i := 13) (ok_ist_n (f := 1) (pc := 22) rfl (by decide +kernel) rfl rfl rfl (by decide +kernel)) (
  mA (i := 14) (ok_ic (n := 0) (pc := 23) (by decide +kernel) rfl rfl (by decide +kernel)) (
  mA (i := 15) (ok_ist_n (f := 2) (pc := 24) rfl (by decide +kernel) rfl rfl rfl (by decide +kernel)) (
  mA (i := 16) (ok_ild_n (f := 2) (pc := 25) rfl rfl rfl (by decide +kernel)) (
  mA (i := 17) (ok_bi (n := 24) (pc := 26) (by decide +kernel) rfl rfl (by decide +kernel)) (
  mA (i := 18) (ok_cge (off := 91) (pc := 28) (tgt := 119) rfl rfl rfl (by decide +kernel) (by decide +kernel)) (
  mA (i := 19) (ok_ild_n (f := 1) (pc := 31) rfl rfl rfl (by decide +kernel)) (
  mA (i := 20) (ok_ifeq (off := 87) (pc := 32) (tgt := 119) rfl rfl rfl (by decide +kernel) (by decide +kernel)) (
  mA (i := 21) (ok_ic (n := 0) (pc := 35) (by decide +kernel) rfl rfl (by decide +kernel)) (
  mA (i := 22) (ok_ist_n (f := 1) (pc := 36) rfl (by decide +kernel) rfl rfl rfl (by decide +kernel)) (
  mA (i := 23) (ok_ic (n := 0) (pc := 37) (by decide +kernel) rfl rfl (by decide +kernel)) (
  mA (i := 24) (ok_ist_n (f := 3) (pc := 38) rfl (by decide +kernel) rfl rfl rfl (by decide +kernel)) (
  mA (i := 25) (ok_ild_n (f := 3) (pc := 39) rfl rfl rfl (by decide +kernel)) (
  mA (i := 26) (ok_bi (n := 24) (pc := 40) (by decide +kernel) rfl rfl (by decide +kernel)) (
  mA (i := 27) (ok_cge (off := 71) (pc := 42) (tgt := 113) rfl rfl rfl (by decide +kernel) (by decide +kernel)) (
  mA (i := 28) (ok_ald_n (f := 0) (pc := 45) rfl rfl rfl (by decide +kernel)) (
  mA (i := 29) (ok_gP (pc := 46) rfl (by decide +kernel) wd_231 inw_7 rfl rfl (by decide +kernel)) (
  mA (i := 30) (ok_ild_n (f := 3) (pc := 49) rfl rfl rfl (by decide +kernel)) (
  mA (i := 31) (ok_iald (pc := 50) rfl rfl (by decide +kernel)) (
  mA (i := 32) (ok_ald_n (f := 0) (pc := 51) rfl rfl rfl (by decide +kernel)) (
  mA (i := 33) (ok_gP (pc := 52) rfl (by decide +kernel) wd_232 inw_7 rfl rfl (by decide +kernel)) (
  mA (i := 34) (ok_ild_n (f := 3) (pc := 55) rfl rfl rfl (by decide +kernel)) (
  mA (i := 35) (ok_iald (pc := 56) rfl rfl (by decide +kernel)) (
  mA (i := 36) (ok_ic (n := (-1)) (pc := 57) (by decide +kernel) rfl rfl (by decide +kernel)) (
  mA (i := 37) (ok_xor (pc := 58) rfl rfl (by decide +kernel)) (
  mA (i := 38) (ok_and (pc := 59) rfl rfl (by decide +kernel)) (
  mA (i := 39) (ok_ist (pc := 60) (by decide +kernel) rfl rfl rfl (by decide +kernel)) (
  mA (i := 40) (ok_ild (pc := 62) rfl rfl (by decide +kernel)) (
  mA (i := 41) (ok_ifne (off := 7) (pc := 64) (tgt := 71) rfl rfl rfl (by decide +kernel) (by decide +kernel)) (
  mA (i := 42) (ok_ic (n := 1) (pc := 67) (by decide +kernel) rfl rfl (by decide +kernel)) (
  mA (i := 43) (ok_goto (off := 16) (pc := 68) (tgt := 84) rfl rfl (by decide +kernel) (by decide +kernel)) (
  mA (i := 44) (ok_ic (n := 1) (pc := 71) (by decide +kernel) rfl rfl (by decide +kernel)) (
  mA (i := 45) (ok_ald_n (f := 0) (pc := 72) rfl rfl rfl (by decide +kernel)) (
  mA (i := 46) (ok_gP (pc := 73) rfl (by decide +kernel) wd_233 inw_7 rfl rfl (by decide +kernel)) (
  mA (i := 47) (ok_ald_n (f := 0) (pc := 76) rfl rfl rfl (by decide +kernel)) (
  mA (i := 48) (ok_ild (pc := 77) rfl rfl (by decide +kernel)) (
  mA (i := 49) (ok_callI (pc := 79) (can_V cal_Rl_firstOfLongest (by decide +kernel) rfl (by decide +kernel) rfl wd_242 wd_243 wd_244 wd_241 (by decide +kernel)) rfl rfl) (
  mA (i := 50) (ok_iald (pc := 82) rfl rfl (by decide +kernel)) (
  mA (i := 51) (ok_add (pc := 83) rfl rfl (by decide +kernel)) (
  mA (i := 52) (ok_ist (pc := 84) (by decide +kernel) rfl rfl rfl (by decide +kernel)) (
  mA (i := 53) (ok_ild (pc := 86) rfl rfl (by decide +kernel)) (
  mA (i := 54) (ok_ald_n (f := 0) (pc := 88) rfl rfl rfl (by decide +kernel)) (
  mA (i := 55) (ok_gP (pc := 89) rfl (by decide +kernel) wd_233 inw_7 rfl rfl (by decide +kernel)) (
  mA (i := 56) (ok_ild_n (f := 3) (pc := 92) rfl rfl rfl (by decide +kernel)) (
  mA (i := 57) (ok_iald (pc := 93) rfl rfl (by decide +kernel)) (
  mA (i := 58) (ok_cle (off := 13) (pc := 94) (tgt := 107) rfl rfl rfl (by decide +kernel) (by decide +kernel)) (
  mA (i := 59) (ok_ald_n (f := 0) (pc := 97) rfl rfl rfl (by decide +kernel)) (
  ok_Rl_measureRows_t60))))))))))))))))))))))))))))))))))))))))))))))))))))))))))))
set_option maxRecDepth 20000 in
theorem ok_Rl_firstOfLongest : mAll (mOk RX6 cX6_firstOfLongest 5 true false (some .int) (mnat p_Rl_firstOfLongest)) 0 k_Rl_firstOfLongest := mA (i := 0) (ok_ic (n := 0) (pc := 0) (by decide +kernel) rfl rfl (by decide +kernel)) (
  mA (i := 1) (ok_ist_n (f := 2) (pc := 1) rfl (by decide +kernel) rfl rfl rfl (by decide +kernel)) (
  mA (i := 2) (ok_ic (n := 0) (pc := 2) (by decide +kernel) rfl rfl (by decide +kernel)) (
  mA (i := 3) (ok_ist_n (f := 3) (pc := 3) rfl (by decide +kernel) rfl rfl rfl (by decide +kernel)) (
  mA (i := 4) (ok_ic (n := 0) (pc := 4) (by decide +kernel) rfl rfl (by decide +kernel)) (
  mA (i := 5) (ok_ist (pc := 5) (by decide +kernel) rfl rfl rfl (by decide +kernel)) (
  mA (i := 6) (ok_ild (pc := 7) rfl rfl (by decide +kernel)) (
  mA (i := 7) (ok_bi (n := 24) (pc := 9) (by decide +kernel) rfl rfl (by decide +kernel)) (
  mA (i := 8) (ok_cge (off := 41) (pc := 11) (tgt := 52) rfl rfl rfl (by decide +kernel) (by decide +kernel)) (
  mA (i := 9) (ok_ild_n (f := 1) (pc := 14) rfl rfl rfl (by decide +kernel)) (
  mA (i := 10) (ok_ild (pc := 15) rfl rfl (by decide +kernel)) (
  mA (i := 11) (ok_shr (pc := 17) rfl rfl (by decide +kernel)) (
  mA (i := 12) (ok_ic (n := 1) (pc := 18) (by decide +kernel) rfl rfl (by decide +kernel)) (
  mA (i := 13) (ok_and (pc := 19) rfl rfl (by decide +kernel)) (
  mA (i := 14) (ok_ic (n := 1) (pc := 20) (by decide +kernel) rfl rfl (by decide +kernel)) (
  mA (i := 15) (ok_cne (off := 25) (pc := 21) (tgt := 46) rfl rfl rfl (by decide +kernel) (by decide +kernel)) (
  mA (i := 16) (ok_ald_n (f := 0) (pc := 24) rfl rfl rfl (by decide +kernel)) (
  mA (i := 17) (ok_gP (pc := 25) rfl (by decide +kernel) wd_233 inw_7 rfl rfl (by decide +kernel)) (
  mA (i := 18) (ok_ild (pc := 28) rfl rfl (by decide +kernel)) (
  mA (i := 19) (ok_iald (pc := 30) rfl rfl (by decide +kernel)) (
  mA (i := 20) (ok_ild_n (f := 3) (pc := 31) rfl rfl rfl (by decide +kernel)) (
  mA (i := 21) (ok_cle (off := 14) (pc := 32) (tgt := 46) rfl rfl rfl (by decide +kernel) (by decide +kernel)) (
  mA (i := 22) (ok_ild (pc := 35) rfl rfl (by decide +kernel)) (
  mA (i := 23) (ok_ist_n (f := 2) (pc := 37) rfl (by decide +kernel) rfl rfl rfl (by decide +kernel)) (
  mA (i := 24) (ok_ald_n (f := 0) (pc := 38) rfl rfl rfl (by decide +kernel)) (
  mA (i := 25) (ok_gP (pc := 39) rfl (by decide +kernel) wd_233 inw_7 rfl rfl (by decide +kernel)) (
  mA (i := 26) (ok_ild (pc := 42) rfl rfl (by decide +kernel)) (
  mA (i := 27) (ok_iald (pc := 44) rfl rfl (by decide +kernel)) (
  mA (i := 28) (ok_ist_n (f := 3) (pc := 45) rfl (by decide +kernel) rfl rfl rfl (by decide +kernel)) (
  mA (i := 29) (ok_inc (z := 1) (pc := 46) (by decide +kernel) (by decide +kernel) rfl rfl rfl (by decide +kernel)) (
  mA (i := 30) (ok_goto (off := (-42)) (pc := 49) (tgt := 7) rfl rfl (by decide +kernel) (by decide +kernel)) (
  mA (i := 31) (ok_ild_n (f := 2) (pc := 52) rfl rfl rfl (by decide +kernel)) (
  mA (i := 32) (ok_iret (pc := 53) rfl rfl (by decide +kernel)) (
  mZ)))))))))))))))))))))))))))))))))
set_option maxRecDepth 20000 in
theorem ok_St_init : mAll (mOk RX7 cX7_init 1 true true none (mnat p_St_init)) 0 k_St_init := mA (i := 0) (ok_ald_n (f := 0) (pc := 0) rfl rfl rfl (by decide +kernel)) (
  mA (i := 1) (ok_obj (pc := 1) wd_245 wd_1 wd_objc rfl rfl (by decide +kernel)) (
  mA (i := 2) (ok_ald_n (f := 0) (pc := 4) rfl rfl rfl (by decide +kernel)) (
  mA (i := 3) (ok_bi (n := 24) (pc := 5) (by decide +kernel) rfl rfl (by decide +kernel)) (
  mA (i := 4) (ok_anew (pc := 7) (Or.inl ⟨rfl, rfl, rfl⟩) wd_246 rfl rfl (by decide +kernel)) (
  mA (i := 5) (ok_pPF (pc := 10) rfl (by decide +kernel) wd_247 inw_8 tyX7_ok nmX7 rfl rfl rfl (tyX7_ok 0 (by decide +kernel)) rfl rfl rfl (by decide +kernel)) (
  mA (i := 6) (ok_ald_n (f := 0) (pc := 13) rfl rfl rfl (by decide +kernel)) (
  mA (i := 7) (ok_bi (n := 8) (pc := 14) (by decide +kernel) rfl rfl (by decide +kernel)) (
  mA (i := 8) (ok_newi (pc := 16) wd_2 rfl rfl (by decide +kernel)) (
  mA (i := 9) (ok_pPF (pc := 18) rfl (by decide +kernel) wd_248 inw_8 tyX7_ok nmX7 rfl rfl rfl (tyX7_ok 1 (by decide +kernel)) rfl rfl rfl (by decide +kernel)) (
  mA (i := 10) (ok_vret (pc := 21) rfl rfl (by decide +kernel)) (
  mZ)))))))))))
set_option maxRecDepth 20000 in
theorem ok_St_clause : mAll (mOk RX7 cX7_clause 2 true false (some (.object "ClauseIndex$Clause")) (mnat p_St_clause)) 0 k_St_clause := mA (i := 0) (ok_ild_n (f := 1) (pc := 0) rfl rfl rfl (by decide +kernel)) (
  mA (i := 1) (ok_iflt (off := 18) (pc := 1) (tgt := 19) rfl rfl rfl (by decide +kernel) (by decide +kernel)) (
  mA (i := 2) (ok_ild_n (f := 1) (pc := 4) rfl rfl rfl (by decide +kernel)) (
  mA (i := 3) (ok_bi (n := 24) (pc := 5) (by decide +kernel) rfl rfl (by decide +kernel)) (
  mA (i := 4) (ok_cge (off := 12) (pc := 7) (tgt := 19) rfl rfl rfl (by decide +kernel) (by decide +kernel)) (
  mA (i := 5) (ok_ald_n (f := 0) (pc := 10) rfl rfl rfl (by decide +kernel)) (
  mA (i := 6) (ok_gP (pc := 11) rfl (by decide +kernel) wd_247 inw_8 rfl rfl (by decide +kernel)) (
  mA (i := 7) (ok_ild_n (f := 1) (pc := 14) rfl rfl rfl (by decide +kernel)) (
  mA (i := 8) (ok_aald (pc := 15) (Or.inl ⟨rfl, rfl, rfl⟩) rfl rfl (by decide +kernel)) (
  mA (i := 9) (ok_goto (off := 4) (pc := 16) (tgt := 20) rfl rfl (by decide +kernel) (by decide +kernel)) (
  mA (i := 10) (ok_nul (pc := 19) rfl rfl (by decide +kernel)) (
  mA (i := 11) (ok_aret (pc := 20) (Or.inl ⟨_, rfl⟩) rfl (by decide +kernel)) (
  mZ))))))))))))
set_option maxRecDepth 20000 in
theorem ok_St_store : mAll (mOk RX7 cX7_store 3 true false none (mnat p_St_store)) 0 k_St_store := mA (i := 0) (ok_ild_n (f := 1) (pc := 0) rfl rfl rfl (by decide +kernel)) (
  mA (i := 1) (ok_iflt (off := 16) (pc := 1) (tgt := 17) rfl rfl rfl (by decide +kernel) (by decide +kernel)) (
  mA (i := 2) (ok_ild_n (f := 1) (pc := 4) rfl rfl rfl (by decide +kernel)) (
  mA (i := 3) (ok_bi (n := 24) (pc := 5) (by decide +kernel) rfl rfl (by decide +kernel)) (
  mA (i := 4) (ok_cge (off := 10) (pc := 7) (tgt := 17) rfl rfl rfl (by decide +kernel) (by decide +kernel)) (
  mA (i := 5) (ok_ald_n (f := 0) (pc := 10) rfl rfl rfl (by decide +kernel)) (
  mA (i := 6) (ok_gP (pc := 11) rfl (by decide +kernel) wd_247 inw_8 rfl rfl (by decide +kernel)) (
  mA (i := 7) (ok_ild_n (f := 1) (pc := 14) rfl rfl rfl (by decide +kernel)) (
  mA (i := 8) (ok_ald_n (f := 2) (pc := 15) rfl rfl rfl (by decide +kernel)) (
  mA (i := 9) (ok_aast (pc := 16) (Or.inl ⟨rfl, rfl, rfl, rfl⟩) rfl rfl (by decide +kernel)) (
  mA (i := 10) (ok_vret (pc := 17) rfl rfl (by decide +kernel)) (
  mZ)))))))))))
set_option maxRecDepth 20000 in
theorem ok_St_drop : mAll (mOk RX7 cX7_drop 3 true false none (mnat p_St_drop)) 0 k_St_drop := mA (i := 0) (ok_ic (n := 0) (pc := 0) (by decide +kernel) rfl rfl (by decide +kernel)) (
  mA (i := 1) (ok_ist_n (f := 2) (pc := 1) rfl (by decide +kernel) rfl rfl rfl (by decide +kernel)) (
  mA (i := 2) (ok_ild_n (f := 2) (pc := 2) rfl rfl rfl (by decide +kernel)) (
  mA (i := 3) (ok_bi (n := 24) (pc := 3) (by decide +kernel) rfl rfl (by decide +kernel)) (
  mA (i := 4) (ok_cge (off := 25) (pc := 5) (tgt := 30) rfl rfl rfl (by decide +kernel) (by decide +kernel)) (
  mA (i := 5) (ok_ild_n (f := 1) (pc := 8) rfl rfl rfl (by decide +kernel)) (
  mA (i := 6) (ok_ild_n (f := 2) (pc := 9) rfl rfl rfl (by decide +kernel)) (
  mA (i := 7) (ok_shr (pc := 10) rfl rfl (by decide +kernel)) (
  mA (i := 8) (ok_ic (n := 1) (pc := 11) (by decide +kernel) rfl rfl (by decide +kernel)) (
  mA (i := 9) (ok_and (pc := 12) rfl rfl (by decide +kernel)) (
  mA (i := 10) (ok_ic (n := 1) (pc := 13) (by decide +kernel) rfl rfl (by decide +kernel)) (
  mA (i := 11) (ok_cne (off := 10) (pc := 14) (tgt := 24) rfl rfl rfl (by decide +kernel) (by decide +kernel)) (
  mA (i := 12) (ok_ald_n (f := 0) (pc := 17) rfl rfl rfl (by decide +kernel)) (
  mA (i := 13) (ok_gP (pc := 18) rfl (by decide +kernel) wd_247 inw_8 rfl rfl (by decide +kernel)) (
  mA (i := 14) (ok_ild_n (f := 2) (pc := 21) rfl rfl rfl (by decide +kernel)) (
  mA (i := 15) (ok_nul (pc := 22) rfl rfl (by decide +kernel)) (
  mA (i := 16) (ok_aast (pc := 23) (Or.inl ⟨rfl, rfl, rfl, rfl⟩) rfl rfl (by decide +kernel)) (
  mA (i := 17) (ok_inc (z := 1) (pc := 24) (by decide +kernel) (by decide +kernel) rfl rfl rfl (by decide +kernel)) (
  mA (i := 18) (ok_goto (off := (-25)) (pc := 27) (tgt := 2) rfl rfl (by decide +kernel) (by decide +kernel)) (
  mA (i := 19) (ok_vret (pc := 30) rfl rfl (by decide +kernel)) (
  mZ))))))))))))))))))))
set_option maxRecDepth 20000 in
theorem ok_St_lowestFree : mAll (mOk RX7 cX7_lowestFree 2 true false (some .int) (mnat p_St_lowestFree)) 0 k_St_lowestFree := mA (i := 0) (ok_ic (n := 0) (pc := 0) (by decide +kernel) rfl rfl (by decide +kernel)) (
  mA (i := 1) (ok_ist_n (f := 1) (pc := 1) rfl (by decide +kernel) rfl rfl rfl (by decide +kernel)) (
  mA (i := 2) (ok_ild_n (f := 1) (pc := 2) rfl rfl rfl (by decide +kernel)) (
  mA (i := 3) (ok_bi (n := 24) (pc := 3) (by decide +kernel) rfl rfl (by decide +kernel)) (
  mA (i := 4) (ok_cge (off := 20) (pc := 5) (tgt := 25) rfl rfl rfl (by decide +kernel) (by decide +kernel)) (
  mA (i := 5) (ok_ald_n (f := 0) (pc := 8) rfl rfl rfl (by decide +kernel)) (
  mA (i := 6) (ok_gP (pc := 9) rfl (by decide +kernel) wd_247 inw_8 rfl rfl (by decide +kernel)) (
  mA (i := 7) (ok_ild_n (f := 1) (pc := 12) rfl rfl rfl (by decide +kernel)) (
  mA (i := 8) (ok_aald (pc := 13) (Or.inl ⟨rfl, rfl, rfl⟩) rfl rfl (by decide +kernel)) (
  mA (i := 9) (ok_nonnull (off := 5) (pc := 14) (tgt := 19) rfl rfl rfl (by decide +kernel) (by decide +kernel)) (
  mA (i := 10) (ok_ild_n (f := 1) (pc := 17) rfl rfl rfl (by decide +kernel)) (
  mA (i := 11) (ok_iret (pc := 18) rfl rfl (by decide +kernel)) (
  mA (i := 12) (ok_inc (z := 1) (pc := 19) (by decide +kernel) (by decide +kernel) rfl rfl rfl (by decide +kernel)) (
  mA (i := 13) (ok_goto (off := (-20)) (pc := 22) (tgt := 2) rfl rfl (by decide +kernel) (by decide +kernel)) (
  mA (i := 14) (ok_ic (n := (-1)) (pc := 25) (by decide +kernel) rfl rfl (by decide +kernel)) (
  mA (i := 15) (ok_iret (pc := 26) rfl rfl (by decide +kernel)) (
  mZ))))))))))))))))
set_option maxRecDepth 20000 in
theorem ok_St_numbers : mAll (mOk RX7 cX7_numbers 3 true false (some .int) (mnat p_St_numbers)) 0 k_St_numbers := mA (i := 0) (ok_ic (n := 0) (pc := 0) (by decide +kernel) rfl rfl (by decide +kernel)) (
  mA (i := 1) (ok_ist_n (f := 1) (pc := 1) rfl (by decide +kernel) rfl rfl rfl (by decide +kernel)) (
  mA (i := 2) (ok_ic (n := 0) (pc := 2) (by decide +kernel) rfl rfl (by decide +kernel)) (
  mA (i := 3) (ok_ist_n (f := 2) (pc := 3) rfl (by decide +kernel) rfl rfl rfl (by decide +kernel)) (
  mA (i := 4) (ok_ild_n (f := 2) (pc := 4) rfl rfl rfl (by decide +kernel)) (
  mA (i := 5) (ok_bi (n := 24) (pc := 5) (by decide +kernel) rfl rfl (by decide +kernel)) (
  mA (i := 6) (ok_cge (off := 24) (pc := 7) (tgt := 31) rfl rfl rfl (by decide +kernel) (by decide +kernel)) (
  mA (i := 7) (ok_ald_n (f := 0) (pc := 10) rfl rfl rfl (by decide +kernel)) (
  mA (i := 8) (ok_gP (pc := 11) rfl (by decide +kernel) wd_247 inw_8 rfl rfl (by decide +kernel)) (
  mA (i := 9) (ok_ild_n (f := 2) (pc := 14) rfl rfl rfl (by decide +kernel)) (
  mA (i := 10) (ok_aald (pc := 15) (Or.inl ⟨rfl, rfl, rfl⟩) rfl rfl (by decide +kernel)) (
  mA (i := 11) (ok_nullp (off := 9) (pc := 16) (tgt := 25) rfl rfl rfl (by decide +kernel) (by decide +kernel)) (
  mA (i := 12) (ok_ild_n (f := 1) (pc := 19) rfl rfl rfl (by decide +kernel)) (
  mA (i := 13) (ok_ic (n := 1) (pc := 20) (by decide +kernel) rfl rfl (by decide +kernel)) (
  mA (i := 14) (ok_ild_n (f := 2) (pc := 21) rfl rfl rfl (by decide +kernel)) (
  mA (i := 15) (ok_shl (pc := 22) rfl rfl (by decide +kernel)) (
  mA (i := 16) (ok_or (pc := 23) rfl rfl (by decide +kernel)) (
  mA (i := 17) (ok_ist_n (f := 1) (pc := 24) rfl (by decide +kernel) rfl rfl rfl (by decide +kernel)) (
  mA (i := 18) (ok_inc (z := 1) (pc := 25) (by decide +kernel) (by decide +kernel) rfl rfl rfl (by decide +kernel)) (
  mA (i := 19) (ok_goto (off := (-24)) (pc := 28) (tgt := 4) rfl rfl (by decide +kernel) (by decide +kernel)) (
  mA (i := 20) (ok_ild_n (f := 1) (pc := 31) rfl rfl rfl (by decide +kernel)) (
  mA (i := 21) (ok_iret (pc := 32) rfl rfl (by decide +kernel)) (
  mZ))))))))))))))))))))))
set_option maxRecDepth 20000 in
theorem ok_St_laid : mAll (mOk RX7 cX7_laid 1 true false (some .int) (mnat p_St_laid)) 0 k_St_laid := mA (i := 0) (ok_ald_n (f := 0) (pc := 0) rfl rfl rfl (by decide +kernel)) (
  mA (i := 1) (ok_gI (pc := 1) rfl (by decide +kernel) wd_249 inw_8 rfl rfl (by decide +kernel)) (
  mA (i := 2) (ok_iret (pc := 4) rfl rfl (by decide +kernel)) (
  mZ)))
set_option maxRecDepth 20000 in
theorem ok_St_featureAt : mAll (mOk RX7 cX7_featureAt 2 true false (some .int) (mnat p_St_featureAt)) 0 k_St_featureAt := mA (i := 0) (ok_ild_n (f := 1) (pc := 0) rfl rfl rfl (by decide +kernel)) (
  mA (i := 1) (ok_iflt (off := 26) (pc := 1) (tgt := 27) rfl rfl rfl (by decide +kernel) (by decide +kernel)) (
  mA (i := 2) (ok_ild_n (f := 1) (pc := 4) rfl rfl rfl (by decide +kernel)) (
  mA (i := 3) (ok_ald_n (f := 0) (pc := 5) rfl rfl rfl (by decide +kernel)) (
  mA (i := 4) (ok_gI (pc := 6) rfl (by decide +kernel) wd_249 inw_8 rfl rfl (by decide +kernel)) (
  mA (i := 5) (ok_cge (off := 18) (pc := 9) (tgt := 27) rfl rfl rfl (by decide +kernel) (by decide +kernel)) (
  mA (i := 6) (ok_ild_n (f := 1) (pc := 12) rfl rfl rfl (by decide +kernel)) (
  mA (i := 7) (ok_bi (n := 8) (pc := 13) (by decide +kernel) rfl rfl (by decide +kernel)) (
  mA (i := 8) (ok_cge (off := 12) (pc := 15) (tgt := 27) rfl rfl rfl (by decide +kernel) (by decide +kernel)) (
  mA (i := 9) (ok_ald_n (f := 0) (pc := 18) rfl rfl rfl (by decide +kernel)) (
  mA (i := 10) (ok_gP (pc := 19) rfl (by decide +kernel) wd_248 inw_8 rfl rfl (by decide +kernel)) (
  mA (i := 11) (ok_ild_n (f := 1) (pc := 22) rfl rfl rfl (by decide +kernel)) (
  mA (i := 12) (ok_iald (pc := 23) rfl rfl (by decide +kernel)) (
  mA (i := 13) (ok_goto (off := 4) (pc := 24) (tgt := 28) rfl rfl (by decide +kernel) (by decide +kernel)) (
  mA (i := 14) (ok_ic (n := (-1)) (pc := 27) (by decide +kernel) rfl rfl (by decide +kernel)) (
  mA (i := 15) (ok_iret (pc := 28) rfl rfl (by decide +kernel)) (
  mZ))))))))))))))))
set_option maxRecDepth 20000 in
theorem ok_St_isLaid : mAll (mOk RX7 cX7_isLaid 3 true false (some .boolean) (mnat p_St_isLaid)) 0 k_St_isLaid := mA (i := 0) (ok_ic (n := 0) (pc := 0) (by decide +kernel) rfl rfl (by decide +kernel)) (
  mA (i := 1) (ok_ist_n (f := 2) (pc := 1) rfl (by decide +kernel) rfl rfl rfl (by decide +kernel)) (
  mA (i := 2) (ok_ild_n (f := 2) (pc := 2) rfl rfl rfl (by decide +kernel)) (
  mA (i := 3) (ok_ald_n (f := 0) (pc := 3) rfl rfl rfl (by decide +kernel)) (
  mA (i := 4) (ok_gI (pc := 4) rfl (by decide +kernel) wd_249 inw_8 rfl rfl (by decide +kernel)) (
  mA (i := 5) (ok_cge (off := 20) (pc := 7) (tgt := 27) rfl rfl rfl (by decide +kernel) (by decide +kernel)) (
  mA (i := 6) (ok_ald_n (f := 0) (pc := 10) rfl rfl rfl (by decide +kernel)) (
  mA (i := 7) (ok_ild_n (f := 2) (pc := 11) rfl rfl rfl (by decide +kernel)) (
  mA (i := 8) (ok_callI (pc := 12) (can_V cal_St_featureAt (by decide +kernel) rfl (by decide +kernel) rfl wd_250 wd_149 wd_150 wd_80 (by decide +kernel)) rfl rfl) (
  mA (i := 9) (ok_ild_n (f := 1) (pc := 15) rfl rfl rfl (by decide +kernel)) (
  mA (i := 10) (ok_cne (off := 5) (pc := 16) (tgt := 21) rfl rfl rfl (by decide +kernel) (by decide +kernel)) (
  mA (i := 11) (ok_ic (n := 1) (pc := 19) (by decide +kernel) rfl rfl (by decide +kernel)) (
  mA (i := 12) (ok_zret (pc := 20) rfl rfl (by decide +kernel)) (
  mA (i := 13) (ok_inc (z := 1) (pc := 21) (by decide +kernel) (by decide +kernel) rfl rfl rfl (by decide +kernel)) (
  mA (i := 14) (ok_goto (off := (-22)) (pc := 24) (tgt := 2) rfl rfl (by decide +kernel) (by decide +kernel)) (
  mA (i := 15) (ok_ic (n := 0) (pc := 27) (by decide +kernel) rfl rfl (by decide +kernel)) (
  mA (i := 16) (ok_zret (pc := 28) rfl rfl (by decide +kernel)) (
  mZ)))))))))))))))))
set_option maxRecDepth 20000 in
theorem ok_St_append : mAll (mOk RX7 cX7_append 2 true false none (mnat p_St_append)) 0 k_St_append := mA (i := 0) (ok_ald_n (f := 0) (pc := 0) rfl rfl rfl (by decide +kernel)) (
  mA (i := 1) (ok_gI (pc := 1) rfl (by decide +kernel) wd_249 inw_8 rfl rfl (by decide +kernel)) (
  mA (i := 2) (ok_iflt (off := 32) (pc := 4) (tgt := 36) rfl rfl rfl (by decide +kernel) (by decide +kernel)) (
  mA (i := 3) (ok_ald_n (f := 0) (pc := 7) rfl rfl rfl (by decide +kernel)) (
  mA (i := 4) (ok_gI (pc := 8) rfl (by decide +kernel) wd_249 inw_8 rfl rfl (by decide +kernel)) (
  mA (i := 5) (ok_bi (n := 8) (pc := 11) (by decide +kernel) rfl rfl (by decide +kernel)) (
  mA (i := 6) (ok_cge (off := 23) (pc := 13) (tgt := 36) rfl rfl rfl (by decide +kernel) (by decide +kernel)) (
  mA (i := 7) (ok_ald_n (f := 0) (pc := 16) rfl rfl rfl (by decide +kernel)) (
  mA (i := 8) (ok_gP (pc := 17) rfl (by decide +kernel) wd_248 inw_8 rfl rfl (by decide +kernel)) (
  mA (i := 9) (ok_ald_n (f := 0) (pc := 20) rfl rfl rfl (by decide +kernel)) (
  mA (i := 10) (ok_gI (pc := 21) rfl (by decide +kernel) wd_249 inw_8 rfl rfl (by decide +kernel)) (
  mA (i := 11) (ok_ild_n (f := 1) (pc := 24) rfl rfl rfl (by decide +kernel)) (
  mA (i := 12) (ok_iast (pc := 25) rfl rfl (by decide +kernel)) (
  mA (i := 13) (ok_ald_n (f := 0) (pc := 26) rfl rfl rfl (by decide +kernel)) (
  mA (i := 14) (ok_dup (pc := 27) rfl rfl (by decide +kernel)) (
  mA (i := 15) (ok_gI (pc := 28) rfl (by decide +kernel) wd_249 inw_8 rfl rfl (by decide +kernel)) (
  mA (i := 16) (ok_ic (n := 1) (pc := 31) (by decide +kernel) rfl rfl (by decide +kernel)) (
  mA (i := 17) (ok_add (pc := 32) rfl rfl (by decide +kernel)) (
  mA (i := 18) (ok_pI (pc := 33) rfl (by decide +kernel) wd_249 inw_8 tyX7_ok nmX7 rfl (by decide +kernel) rfl rfl (by decide +kernel)) (
  mA (i := 19) (ok_vret (pc := 36) rfl rfl (by decide +kernel)) (
  mZ))))))))))))))))))))
set_option maxRecDepth 20000 in
theorem ok_St_dropLast : mAll (mOk RX7 cX7_dropLast 1 true false none (mnat p_St_dropLast)) 0 k_St_dropLast := mA (i := 0) (ok_ald_n (f := 0) (pc := 0) rfl rfl rfl (by decide +kernel)) (
  mA (i := 1) (ok_gI (pc := 1) rfl (by decide +kernel) wd_249 inw_8 rfl rfl (by decide +kernel)) (
  mA (i := 2) (ok_ifle (off := 13) (pc := 4) (tgt := 17) rfl rfl rfl (by decide +kernel) (by decide +kernel)) (
  mA (i := 3) (ok_ald_n (f := 0) (pc := 7) rfl rfl rfl (by decide +kernel)) (
  mA (i := 4) (ok_dup (pc := 8) rfl rfl (by decide +kernel)) (
  mA (i := 5) (ok_gI (pc := 9) rfl (by decide +kernel) wd_249 inw_8 rfl rfl (by decide +kernel)) (
  mA (i := 6) (ok_ic (n := 1) (pc := 12) (by decide +kernel) rfl rfl (by decide +kernel)) (
  mA (i := 7) (ok_sub (pc := 13) rfl rfl (by decide +kernel)) (
  mA (i := 8) (ok_pI (pc := 14) rfl (by decide +kernel) wd_249 inw_8 tyX7_ok nmX7 rfl (by decide +kernel) rfl rfl (by decide +kernel)) (
  mA (i := 9) (ok_vret (pc := 17) rfl rfl (by decide +kernel)) (
  mZ))))))))))
set_option maxRecDepth 20000 in
theorem ok_St_isOrder : mAll (mOk RX7 cX7_isOrder 4 true false (some .boolean) (mnat p_St_isOrder)) 0 k_St_isOrder := mA (i := 0) (ok_ild_n (f := 2) (pc := 0) rfl rfl rfl (by decide +kernel)) (
  mA (i := 1) (ok_ald_n (f := 0) (pc := 1) rfl rfl rfl (by decide +kernel)) (
  mA (i := 2) (ok_gI (pc := 2) rfl (by decide +kernel) wd_249 inw_8 rfl rfl (by decide +kernel)) (
  mA (i := 3) (ok_ceq (off := 5) (pc := 5) (tgt := 10) rfl rfl rfl (by decide +kernel) (by decide +kernel)) (
  mA (i := 4) (ok_ic (n := 0) (pc := 8) (by decide +kernel) rfl rfl (by decide +kernel)) (
  mA (i := 5) (ok_zret (pc := 9) rfl rfl (by decide +kernel)) (
  mA (i := 6) (ok_ic (n := 0) (pc := 10) (by decide +kernel) rfl rfl (by decide +kernel)) (
  mA (i := 7) (ok_ist_n (f := 3) (pc := 11) rfl (by decide +kernel) rfl rfl rfl (by decide +kernel)) (
  mA (i := 8) (ok_ild_n (f := 3) (pc := 12) rfl rfl rfl (by decide +kernel)) (
  mA (i := 9) (ok_ild_n (f := 2) (pc := 13) rfl rfl rfl (by decide +kernel)) (
  mA (i := 10) (ok_cge (off := 28) (pc := 14) (tgt := 42) rfl rfl rfl (by decide +kernel) (by decide +kernel)) (
  mA (i := 11) (ok_ild_n (f := 3) (pc := 17) rfl rfl rfl (by decide +kernel)) (
  mA (i := 12) (ok_ald_n (f := 1) (pc := 18) rfl rfl rfl (by decide +kernel)) (
  mA (i := 13) (ok_len (pc := 19) (by decide +kernel) rfl rfl (by decide +kernel)) (
  mA (i := 14) (ok_cge (off := 22) (pc := 20) (tgt := 42) rfl rfl rfl (by decide +kernel) (by decide +kernel)) (
  mA (i := 15) (ok_ald_n (f := 1) (pc := 23) rfl rfl rfl (by decide +kernel)) (
  mA (i := 16) (ok_ild_n (f := 3) (pc := 24) rfl rfl rfl (by decide +kernel)) (
  mA (i := 17) (ok_iald (pc := 25) rfl rfl (by decide +kernel)) (
  mA (i := 18) (ok_ald_n (f := 0) (pc := 26) rfl rfl rfl (by decide +kernel)) (
  mA (i := 19) (ok_ild_n (f := 3) (pc := 27) rfl rfl rfl (by decide +kernel)) (
  mA (i := 20) (ok_callI (pc := 28) (can_V cal_St_featureAt (by decide +kernel) rfl (by decide +kernel) rfl wd_250 wd_149 wd_150 wd_80 (by decide +kernel)) rfl rfl) (
  mA (i := 21) (ok_ceq (off := 5) (pc := 31) (tgt := 36) rfl rfl rfl (by decide +kernel) (by decide +kernel)) (
  mA (i := 22) (ok_ic (n := 0) (pc := 34) (by decide +kernel) rfl rfl (by decide +kernel)) (
  mA (i := 23) (ok_zret (pc := 35) rfl rfl (by decide +kernel)) (
  mA (i := 24) (ok_inc (z := 1) (pc := 36) (by decide +kernel) (by decide +kernel) rfl rfl rfl (by decide +kernel)) (
  mA (i := 25) (ok_goto (off := (-27)) (pc := 39) (tgt := 12) rfl rfl (by decide +kernel) (by decide +kernel)) (
  mA (i := 26) (ok_ic (n := 1) (pc := 42) (by decide +kernel) rfl rfl (by decide +kernel)) (
  mA (i := 27) (ok_zret (pc := 43) rfl rfl (by decide +kernel)) (
  mZ))))))))))))))))))))))))))))
set_option maxRecDepth 20000 in
theorem ok_St_layAll : mAll (mOk RX7 cX7_layAll 4 true false none (mnat p_St_layAll)) 0 k_St_layAll := mA (i := 0) (ok_ald_n (f := 0) (pc := 0) rfl rfl rfl (by decide +kernel)) (
  mA (i := 1) (ok_ic (n := 0) (pc := 1) (by decide +kernel) rfl rfl (by decide +kernel)) (
  mA (i := 2) (ok_pI (pc := 2) rfl (by decide +kernel) wd_249 inw_8 tyX7_ok nmX7 rfl (by decide +kernel) rfl rfl (by decide +kernel)) (
  mA (i := 3) (ok_ic (n := 0) (pc := 5) (by decide +kernel) rfl rfl (by decide +kernel)) (
  mA (i := 4) (ok_ist_n (f := 3) (pc := 6) rfl (by decide +kernel) rfl rfl rfl (by decide +kernel)) (
  mA (i := 5) (ok_ild_n (f := 3) (pc := 7) rfl rfl rfl (by decide +kernel)) (
  mA (i := 6) (ok_ild_n (f := 2) (pc := 8) rfl rfl rfl (by decide +kernel)) (
  mA (i := 7) (ok_cge (off := 22) (pc := 9) (tgt := 31) rfl rfl rfl (by decide +kernel) (by decide +kernel)) (
  mA (i := 8) (ok_ild_n (f := 3) (pc := 12) rfl rfl rfl (by decide +kernel)) (
  mA (i := 9) (ok_ald_n (f := 1) (pc := 13) rfl rfl rfl (by decide +kernel)) (
  mA (i := 10) (ok_len (pc := 14) (by decide +kernel) rfl rfl (by decide +kernel)) (
  mA (i := 11) (ok_cge (off := 16) (pc := 15) (tgt := 31) rfl rfl rfl (by decide +kernel) (by decide +kernel)) (
  mA (i := 12) (ok_ald_n (f := 0) (pc := 18) rfl rfl rfl (by decide +kernel)) (
  mA (i := 13) (ok_ald_n (f := 1) (pc := 19) rfl rfl rfl (by decide +kernel)) (
  mA (i := 14) (ok_ild_n (f := 3) (pc := 20) rfl rfl rfl (by decide +kernel)) (
  mA (i := 15) (ok_iald (pc := 21) rfl rfl (by decide +kernel)) (
  mA (i := 16) (ok_callV (pc := 22) (can_V cal_St_append (by decide +kernel) rfl (by decide +kernel) rfl wd_251 wd_252 wd_253 wd_80 (by decide +kernel)) rfl rfl) (
  mA (i := 17) (ok_inc (z := 1) (pc := 25) (by decide +kernel) (by decide +kernel) rfl rfl rfl (by decide +kernel)) (
  mA (i := 18) (ok_goto (off := (-21)) (pc := 28) (tgt := 7) rfl rfl (by decide +kernel) (by decide +kernel)) (
  mA (i := 19) (ok_vret (pc := 31) rfl rfl (by decide +kernel)) (
  mZ))))))))))))))))))))
set_option maxRecDepth 20000 in
theorem ok_St_copy : mAll (mOk RX7 cX7_copy 3 true false none (mnat p_St_copy)) 0 k_St_copy := mA (i := 0) (ok_ic (n := 0) (pc := 0) (by decide +kernel) rfl rfl (by decide +kernel)) (
  mA (i := 1) (ok_ist_n (f := 2) (pc := 1) rfl (by decide +kernel) rfl rfl rfl (by decide +kernel)) (
  mA (i := 2) (ok_ild_n (f := 2) (pc := 2) rfl rfl rfl (by decide +kernel)) (
  mA (i := 3) (ok_bi (n := 24) (pc := 3) (by decide +kernel) rfl rfl (by decide +kernel)) (
  mA (i := 4) (ok_cge (off := 20) (pc := 5) (tgt := 25) rfl rfl rfl (by decide +kernel) (by decide +kernel)) (
  mA (i := 5) (ok_ald_n (f := 0) (pc := 8) rfl rfl rfl (by decide +kernel)) (
  mA (i := 6) (ok_gP (pc := 9) rfl (by decide +kernel) wd_247 inw_8 rfl rfl (by decide +kernel)) (
  mA (i := 7) (ok_ild_n (f := 2) (pc := 12) rfl rfl rfl (by decide +kernel)) (
  mA (i := 8) (ok_ald_n (f := 1) (pc := 13) rfl rfl rfl (by decide +kernel)) (
  mA (i := 9) (ok_ild_n (f := 2) (pc := 14) rfl rfl rfl (by decide +kernel)) (
  mA (i := 10) (ok_callP (pc := 15) (can_V cal_St_clause (by decide +kernel) rfl (by decide +kernel) rfl wd_254 wd_171 wd_172 wd_80 (by decide +kernel)) rfl rfl) (
  mA (i := 11) (ok_aast (pc := 18) (Or.inl ⟨rfl, rfl, rfl, rfl⟩) rfl rfl (by decide +kernel)) (
  mA (i := 12) (ok_inc (z := 1) (pc := 19) (by decide +kernel) (by decide +kernel) rfl rfl rfl (by decide +kernel)) (
  mA (i := 13) (ok_goto (off := (-20)) (pc := 22) (tgt := 2) rfl rfl (by decide +kernel) (by decide +kernel)) (
  mA (i := 14) (ok_ald_n (f := 0) (pc := 25) rfl rfl rfl (by decide +kernel)) (
  mA (i := 15) (ok_ic (n := 0) (pc := 26) (by decide +kernel) rfl rfl (by decide +kernel)) (
  mA (i := 16) (ok_pI (pc := 27) rfl (by decide +kernel) wd_249 inw_8 tyX7_ok nmX7 rfl (by decide +kernel) rfl rfl (by decide +kernel)) (
  mA (i := 17) (ok_ic (n := 0) (pc := 30) (by decide +kernel) rfl rfl (by decide +kernel)) (
  mA (i := 18) (ok_ist_n (f := 2) (pc := 31) rfl (by decide +kernel) rfl rfl rfl (by decide +kernel)) (
  mA (i := 19) (ok_ild_n (f := 2) (pc := 32) rfl rfl rfl (by decide +kernel)) (
  mA (i := 20) (ok_ald_n (f := 1) (pc := 33) rfl rfl rfl (by decide +kernel)) (
  mA (i := 21) (ok_callI (pc := 34) (can_V cal_St_laid (by decide +kernel) rfl (by decide +kernel) rfl wd_255 wd_146 wd_147 wd_80 (by decide +kernel)) rfl rfl) (
  mA (i := 22) (ok_cge (off := 18) (pc := 37) (tgt := 55) rfl rfl rfl (by decide +kernel) (by decide +kernel)) (
  mA (i := 23) (ok_ald_n (f := 0) (pc := 40) rfl rfl rfl (by decide +kernel)) (
  mA (i := 24) (ok_ald_n (f := 1) (pc := 41) rfl rfl rfl (by decide +kernel)) (
  mA (i := 25) (ok_ild_n (f := 2) (pc := 42) rfl rfl rfl (by decide +kernel)) (
  mA (i := 26) (ok_callI (pc := 43) (can_V cal_St_featureAt (by decide +kernel) rfl (by decide +kernel) rfl wd_250 wd_149 wd_150 wd_80 (by decide +kernel)) rfl rfl) (
  mA (i := 27) (ok_callV (pc := 46) (can_V cal_St_append (by decide +kernel) rfl (by decide +kernel) rfl wd_251 wd_252 wd_253 wd_80 (by decide +kernel)) rfl rfl) (
  mA (i := 28) (ok_inc (z := 1) (pc := 49) (by decide +kernel) (by decide +kernel) rfl rfl rfl (by decide +kernel)) (
  mA (i := 29) (ok_goto (off := (-20)) (pc := 52) (tgt := 32) rfl rfl (by decide +kernel) (by decide +kernel)) (
  mA (i := 30) (ok_vret (pc := 55) rfl rfl (by decide +kernel)) (
  mZ)))))))))))))))))))))))))))))))
set_option maxRecDepth 20000 in
theorem ok_St_leastOf : mAll (mOk RX7 cX7_leastOf 5 true false (some .int) (mnat p_St_leastOf)) 0 k_St_leastOf := mA (i := 0) (ok_ldc (pc := 0) wd_256 rfl rfl (by decide +kernel)) (
  mA (i := 1) (ok_ist_n (f := 3) (pc := 2) rfl (by decide +kernel) rfl rfl rfl (by decide +kernel)) (
  mA (i := 2) (ok_ic (n := 0) (pc := 3) (by decide +kernel) rfl rfl (by decide +kernel)) (
  mA (i := 3) (ok_ist (pc := 4) (by decide +kernel) rfl rfl rfl (by decide +kernel)) (
  mA (i := 4) (ok_ild (pc := 6) rfl rfl (by decide +kernel)) (
  mA (i := 5) (ok_bi (n := 24) (pc := 8) (by decide +kernel) rfl rfl (by decide +kernel)) (
  mA (i := 6) (ok_cge (off := 46) (pc := 10) (tgt := 56) rfl rfl rfl (by decide +kernel) (by decide +kernel)) (
  mA (i := 7) (ok_ild_n (f := 1) (pc := 13) rfl rfl rfl (by decide +kernel)) (
  mA (i := 8) (ok_ild (pc := 14) rfl rfl (by decide +kernel)) (
  mA (i := 9) (ok_shr (pc := 16) rfl rfl (by decide +kernel)) (
  mA (i := 10) (ok_ic (n := 1) (pc := 17) (by decide +kernel) rfl rfl (by decide +kernel)) (
  mA (i := 11) (ok_and (pc := 18) rfl rfl (by decide +kernel)) (
  mA (i := 12) (ok_ic (n := 1) (pc := 19) (by decide +kernel) rfl rfl (by decide +kernel)) (
  mA (i := 13) (ok_cne (off := 30) (pc := 20) (tgt := 50) rfl rfl rfl (by decide +kernel) (by decide +kernel)) (
  mA (i := 14) (ok_ald_n (f := 0) (pc := 23) rfl rfl rfl (by decide +kernel)) (
  mA (i := 15) (ok_gP (pc := 24) rfl (by decide +kernel) wd_247 inw_8 rfl rfl (by decide +kernel)) (
  mA (i := 16) (ok_ild (pc := 27) rfl rfl (by decide +kernel)) (
  mA (i := 17) (ok_aald (pc := 29) (Or.inl ⟨rfl, rfl, rfl⟩) rfl rfl (by decide +kernel)) (
  mA (i := 18) (ok_nullp (off := 20) (pc := 30) (tgt := 50) rfl rfl rfl (by decide +kernel) (by decide +kernel)) (
  mA (i := 19) (ok_ild_n (f := 3) (pc := 33) rfl rfl rfl (by decide +kernel)) (
  mA (i := 20) (ok_ald_n (f := 0) (pc := 34) rfl rfl rfl (by decide +kernel)) (
  mA (i := 21) (ok_gP (pc := 35) rfl (by decide +kernel) wd_247 inw_8 rfl rfl (by decide +kernel)) (
  mA (i := 22) (ok_ild (pc := 38) rfl rfl (by decide +kernel)) (
  mA (i := 23) (ok_aald (pc := 40) (Or.inl ⟨rfl, rfl, rfl⟩) rfl rfl (by decide +kernel)) (
  mA (i := 24) (ok_ild_n (f := 2) (pc := 41) rfl rfl rfl (by decide +kernel)) (
  mA (i := 25) (ok_ic (n := 1) (pc := 42) (by decide +kernel) rfl rfl (by decide +kernel)) (
  mA (i := 26) (ok_callI (pc := 43) (can_V cal_Cl_measure (by decide +kernel) rfl (by decide +kernel) rfl wd_257 wd_174 wd_175 wd_24 (by decide +kernel)) rfl rfl) (
  mA (i := 27) (ok_callI (pc := 46) (can_S cal_Jm_min (by decide +kernel) wd_258 wd_90 wd_9 (by decide +kernel)) rfl rfl) (
  mA (i := 28) (ok_ist_n (f := 3) (pc := 49) rfl (by decide +kernel) rfl rfl rfl (by decide +kernel)) (
  mA (i := 29) (ok_inc (z := 1) (pc := 50) (by decide +kernel) (by decide +kernel) rfl rfl rfl (by decide +kernel)) (
  mA (i := 30) (ok_goto (off := (-47)) (pc := 53) (tgt := 6) rfl rfl (by decide +kernel) (by decide +kernel)) (
  mA (i := 31) (ok_ild_n (f := 3) (pc := 56) rfl rfl rfl (by decide +kernel)) (
  mA (i := 32) (ok_iret (pc := 57) rfl rfl (by decide +kernel)) (
  mZ)))))))))))))))))))))))))))))))))
set_option maxRecDepth 20000 in
theorem ok_St_having : mAll (mOk RX7 cX7_having 6 true false (some .int) (mnat p_St_having)) 0 k_St_having := mA (i := 0) (ok_ic (n := 0) (pc := 0) (by decide +kernel) rfl rfl (by decide +kernel)) (
  mA (i := 1) (ok_ist (pc := 1) (by decide +kernel) rfl rfl rfl (by decide +kernel)) (
  mA (i := 2) (ok_ic (n := 0) (pc := 3) (by decide +kernel) rfl rfl (by decide +kernel)) (
  mA (i := 3) (ok_ist (pc := 4) (by decide +kernel) rfl rfl rfl (by decide +kernel)) (
  mA (i := 4) (ok_ild (pc := 6) rfl rfl (by decide +kernel)) (
  mA (i := 5) (ok_bi (n := 24) (pc := 8) (by decide +kernel) rfl rfl (by decide +kernel)) (
  mA (i := 6) (ok_cge (off := 54) (pc := 10) (tgt := 64) rfl rfl rfl (by decide +kernel) (by decide +kernel)) (
  mA (i := 7) (ok_ild_n (f := 1) (pc := 13) rfl rfl rfl (by decide +kernel)) (
  mA (i := 8) (ok_ild (pc := 14) rfl rfl (by decide +kernel)) (
  mA (i := 9) (ok_shr (pc := 16) rfl rfl (by decide +kernel)) (
  mA (i := 10) (ok_ic (n := 1) (pc := 17) (by decide +kernel) rfl rfl (by decide +kernel)) (
  mA (i := 11) (ok_and (pc := 18) rfl rfl (by decide +kernel)) (
  mA (i := 12) (ok_ic (n := 1) (pc := 19) (by decide +kernel) rfl rfl (by decide +kernel)) (
  mA (i := 13) (ok_cne (off := 38) (pc := 20) (tgt := 58) rfl rfl rfl (by decide +kernel) (by decide +kernel)) (
  mA (i := 14) (ok_ald_n (f := 0) (pc := 23) rfl rfl rfl (by decide +kernel)) (
  mA (i := 15) (ok_gP (pc := 24) rfl (by decide +kernel) wd_247 inw_8 rfl rfl (by decide +kernel)) (
  mA (i := 16) (ok_ild (pc := 27) rfl rfl (by decide +kernel)) (
  mA (i := 17) (ok_aald (pc := 29) (Or.inl ⟨rfl, rfl, rfl⟩) rfl rfl (by decide +kernel)) (
  mA (i := 18) (ok_nullp (off := 28) (pc := 30) (tgt := 58) rfl rfl rfl (by decide +kernel) (by decide +kernel)) (
  mA (i := 19) (ok_ald_n (f := 0) (pc := 33) rfl rfl rfl (by decide +kernel)) (
  mA (i := 20) (ok_gP (pc := 34) rfl (by decide +kernel) wd_247 inw_8 rfl rfl (by decide +kernel)) (
  mA (i := 21) (ok_ild (pc := 37) rfl rfl (by decide +kernel)) (
  mA (i := 22) (ok_aald (pc := 39) (Or.inl ⟨rfl, rfl, rfl⟩) rfl rfl (by decide +kernel)) (
  mA (i := 23) (ok_ild_n (f := 2) (pc := 40) rfl rfl rfl (by decide +kernel)) (
  mA (i := 24) (ok_ic (n := 1) (pc := 41) (by decide +kernel) rfl rfl (by decide +kernel)) (
  mA (i := 25) (ok_callI (pc := 42) (can_V cal_Cl_measure (by decide +kernel) rfl (by decide +kernel) rfl wd_257 wd_174 wd_175 wd_24 (by decide +kernel)) rfl rfl) (
  mA (i := 26) (ok_ild_n (f := 3) (pc := 45) rfl rfl rfl (by decide +kernel)) (
  mA (i := 27) (ok_cne (off := 12) (pc := 46) (tgt := 58) rfl rfl rfl (by decide +kernel) (by decide +kernel)) (
  mA (i := 28) (ok_ild (pc := 49) rfl rfl (by decide +kernel)) (
  mA (i := 29) (ok_ic (n := 1) (pc := 51) (by decide +kernel) rfl rfl (by decide +kernel)) (
  mA (i := 30) (ok_ild (pc := 52) rfl rfl (by decide +kernel)) (
  mA (i := 31) (ok_shl (pc := 54) rfl rfl (by decide +kernel)) (
  mA (i := 32) (ok_or (pc := 55) rfl rfl (by decide +kernel)) (
  mA (i := 33) (ok_ist (pc := 56) (by decide +kernel) rfl rfl rfl (by decide +kernel)) (
  mA (i := 34) (ok_inc (z := 1) (pc := 58) (by decide +kernel) (by decide +kernel) rfl rfl rfl (by decide +kernel)) (
  mA (i := 35) (ok_goto (off := (-55)) (pc := 61) (tgt := 6) rfl rfl (by decide +kernel) (by decide +kernel)) (
  mA (i := 36) (ok_ild (pc := 64) rfl rfl (by decide +kernel)) (
  mA (i := 37) (ok_iret (pc := 66) rfl rfl (by decide +kernel)) (
  mZ))))))))))))))))))))))))))))))))))))))
set_option maxRecDepth 20000 in
theorem ok_Tr_init : mAll (mOk RX8 cX8_init 1 true true none (mnat p_Tr_init)) 0 k_Tr_init := mA (i := 0) (ok_ald_n (f := 0) (pc := 0) rfl rfl rfl (by decide +kernel)) (
  mA (i := 1) (ok_obj (pc := 1) wd_259 wd_1 wd_objc rfl rfl (by decide +kernel)) (
  mA (i := 2) (ok_ald_n (f := 0) (pc := 4) rfl rfl rfl (by decide +kernel)) (
  mA (i := 3) (ok_si (n := 193) (pc := 5) (by decide +kernel) rfl rfl (by decide +kernel)) (
  mA (i := 4) (ok_newi (pc := 8) wd_2 rfl rfl (by decide +kernel)) (
  mA (i := 5) (ok_pPF (pc := 10) rfl (by decide +kernel) wd_260 inw_9 tyX8_ok nmX8 rfl rfl rfl (tyX8_ok 0 (by decide +kernel)) rfl rfl rfl (by decide +kernel)) (
  mA (i := 6) (ok_ald_n (f := 0) (pc := 13) rfl rfl rfl (by decide +kernel)) (
  mA (i := 7) (ok_si (n := 193) (pc := 14) (by decide +kernel) rfl rfl (by decide +kernel)) (
  mA (i := 8) (ok_newi (pc := 17) wd_2 rfl rfl (by decide +kernel)) (
  mA (i := 9) (ok_pPF (pc := 19) rfl (by decide +kernel) wd_261 inw_9 tyX8_ok nmX8 rfl rfl rfl (tyX8_ok 1 (by decide +kernel)) rfl rfl rfl (by decide +kernel)) (
  mA (i := 10) (ok_ald_n (f := 0) (pc := 22) rfl rfl rfl (by decide +kernel)) (
  mA (i := 11) (ok_si (n := 193) (pc := 23) (by decide +kernel) rfl rfl (by decide +kernel)) (
  mA (i := 12) (ok_newi (pc := 26) wd_2 rfl rfl (by decide +kernel)) (
  mA (i := 13) (ok_pPF (pc := 28) rfl (by decide +kernel) wd_262 inw_9 tyX8_ok nmX8 rfl rfl rfl (tyX8_ok 2 (by decide +kernel)) rfl rfl rfl (by decide +kernel)) (
  mA (i := 14) (ok_ald_n (f := 0) (pc := 31) rfl rfl rfl (by decide +kernel)) (
  mA (i := 15) (ok_si (n := 193) (pc := 32) (by decide +kernel) rfl rfl (by decide +kernel)) (
  mA (i := 16) (ok_newi (pc := 35) wd_2 rfl rfl (by decide +kernel)) (
  mA (i := 17) (ok_pPF (pc := 37) rfl (by decide +kernel) wd_263 inw_9 tyX8_ok nmX8 rfl rfl rfl (tyX8_ok 3 (by decide +kernel)) rfl rfl rfl (by decide +kernel)) (
  mA (i := 18) (ok_vret (pc := 40) rfl rfl (by decide +kernel)) (
  mZ)))))))))))))))))))
set_option maxRecDepth 20000 in
theorem ok_Tr_grow : mAll (mOk RX8 cX8_grow 2 true false none (mnat p_Tr_grow)) 0 k_Tr_grow := mA (i := 0) (ok_ald_n (f := 0) (pc := 0) rfl rfl rfl (by decide +kernel)) (
  mA (i := 1) (ok_ic (n := 0) (pc := 1) (by decide +kernel) rfl rfl (by decide +kernel)) (
  mA (i := 2) (ok_pI (pc := 2) rfl (by decide +kernel) wd_264 inw_9 tyX8_ok nmX8 rfl (by decide +kernel) rfl rfl (by decide +kernel)) (
  mA (i := 3) (ok_ald_n (f := 0) (pc := 5) rfl rfl rfl (by decide +kernel)) (
  mA (i := 4) (ok_ald_n (f := 1) (pc := 6) rfl rfl rfl (by decide +kernel)) (
  mA (i := 5) (ok_ald_n (f := 1) (pc := 7) rfl rfl rfl (by decide +kernel)) (
  mA (i := 6) (ok_callI (pc := 8) (can_V cal_St_numbers (by decide +kernel) rfl (by decide +kernel) rfl wd_265 wd_177 wd_178 wd_80 (by decide +kernel)) rfl rfl) (
  mA (i := 7) (ok_ic (n := 0) (pc := 11) (by decide +kernel) rfl rfl (by decide +kernel)) (
  mA (i := 8) (ok_ic (n := (-1)) (pc := 12) (by decide +kernel) rfl rfl (by decide +kernel)) (
  mA (i := 9) (ok_callV (pc := 13) (can_V cal_Tr_branch (by decide +kernel) rfl (by decide +kernel) rfl wd_266 wd_267 wd_268 wd_269 (by decide +kernel)) rfl rfl) (
  mA (i := 10) (ok_vret (pc := 16) rfl rfl (by decide +kernel)) (
  mZ)))))))))))
set_option maxRecDepth 20000 in
theorem ok_Tr_branch_t60 : mAll (mOk RX8 cX8_branch 11 true false none (mnat p_Tr_branch)) 60 [o_callI 108 3 8, o_ist 9, o_ald 1, o_ild 7, o_ild 6, o_ild 9, o_callI 109 4 8, o_ist 10, o_ald 0, o_gP 9 2, o_ild 5, o_dup2, o_ald4 21, o_ic (nI 1), o_add, o_iast, o_ald 0, o_ald 1, o_ild 10, o_ild 3, o_ic (nI 1), o_add, o_ild 9, o_callV 112 5 9, o_ild 7, o_ild 10, o_ic ((-1)), o_xor, o_and, o_ist 7, o_inc 8 (nI 1), o_goto 52, o_vret] := mA (i := 60) (ok_callI (pc := 110) (can_V cal_St_leastOf (by decide +kernel) rfl (by decide +kernel) rfl wd_271 wd_272 wd_273 wd_80 (by decide +kernel)) rfl rfl) (
  mA (i := 61) (ok_ist (pc := 113) (by decide +kernel) rfl rfl rfl (by decide +kernel)) (
  mA (i := 62) (ok_ald_n (f := 1) (pc := 115) rfl rfl rfl (by decide +kernel)) (
  mA (i := 63) (ok_ild (pc := 116) rfl rfl (by decide +kernel)) (
  mA (i := 64) (ok_ild (pc := 118) rfl rfl (by decide +kernel)) (
  mA (i := 65) (ok_ild (pc := 120) rfl rfl (by decide +kernel)) (
  mA (i := 66) (ok_callI (pc := 122) (can_V cal_St_having (by decide +kernel) rfl (by decide +kernel) rfl wd_274 wd_275 wd_276 wd_80 (by decide +kernel)) rfl rfl) (
  mA (i := 67) (ok_ist (pc := 125) (by decide +kernel) rfl rfl rfl (by decide +kernel)) (
  mA (i := 68) (ok_ald_n (f := 0) (pc := 127) rfl rfl rfl (by decide +kernel)) (
  mA (i := 69) (ok_gP (pc := 128) rfl (by decide +kernel) wd_262 inw_9 rfl rfl (by decide +kernel)) (
  mA (i := 70) (ok_ild (pc := 131) rfl rfl (by decide +kernel)) (
  mA (i := 71) (ok_dup2 (pc := 133) rfl rfl (by decide +kernel)) (
  mA (i := 72) (ok_iald (pc := 134) rfl rfl (by decide +kernel)) (
  mA (i := 73) (ok_ic (n := 1) (pc := 135) (by decide +kernel) rfl rfl (by decide +kernel)) (
  mA (i := 74) (ok_add (pc := 136) rfl rfl (by decide +kernel)) (
  mA (i := 75) (ok_iast (pc := 137) rfl rfl (by decide +kernel)) (
  mA (i := 76) (ok_ald_n (f := 0) (pc := 138) rfl rfl rfl (by decide +kernel)) (
  mA (i := 77) (ok_ald_n (f := 1) (pc := 139) rfl rfl rfl (by decide +kernel)) (
  mA (i := 78) (ok_ild (pc := 140) rfl rfl (by decide +kernel)) (
  mA (i := 79) (ok_ild_n (f := 3) (pc := 142) rfl rfl rfl (by decide +kernel)) (
  mA (i := 80) (ok_ic (n := 1) (pc := 143) (by decide +kernel) rfl rfl (by decide +kernel)) (
  mA (i := 81) (ok_add (pc := 144) rfl rfl (by decide +kernel)) (
  mA (i := 82) (ok_ild (pc := 145) rfl rfl (by decide +kernel)) (
  mA (i := 83) (ok_callV (pc := 147) (can_V cal_Tr_branch (by decide +kernel) rfl (by decide +kernel) rfl wd_266 wd_267 wd_268 wd_269 (by decide +kernel)) rfl rfl) (
  mA (i := 84) (ok_ild (pc := 150) rfl rfl (by decide +kernel)) (
  mA (i := 85) (ok_ild (pc := 152) rfl rfl (by decide +kernel)) (
  mA (i := 86) (ok_ic (n := (-1)) (pc := 154) (by decide +kernel) rfl rfl (by decide +kernel)) (
  mA (i := 87) (ok_xor (pc := 155) rfl rfl (by decide +kernel)) (
  mA (i := 88) (ok_and (pc := 156) rfl rfl (by decide +kernel)) (
  mA (i := 89) (ok_ist (pc := 157) (by decide +kernel) rfl rfl rfl (by decide +kernel)) (
  mA (i := 90) (ok_inc (z := 1) (pc := 159) (by decide +kernel) (by decide +kernel) rfl rfl rfl (by decide +kernel)) (
  mA (i := 91) (ok_goto (off := (-69)) (pc := 162) (tgt := 93) rfl rfl (by decide +kernel) (by decide +kernel)) (
  mA (i := 92) (ok_vret (pc := 165) rfl rfl (by decide +kernel)) (
  mZ)))))))))))))))))))))))))))))))))
set_option maxRecDepth 20000 in
theorem ok_Tr_branch : mAll (mOk RX8 cX8_branch 11 true false none (mnat p_Tr_branch)) 0 k_Tr_branch := mA (i := 0) (ok_ald_n (f := 0) (pc := 0) rfl rfl rfl (by decide +kernel)) (
  mA (i := 1) (ok_gI (pc := 1) rfl (by decide +kernel) wd_264 inw_9 rfl rfl (by decide +kernel)) (
  mA (i := 2) (ok_iflt (off := 19) (pc := 4) (tgt := 23) rfl rfl rfl (by decide +kernel) (by decide +kernel)) (
  mA (i := 3) (ok_ald_n (f := 0) (pc := 7) rfl rfl rfl (by decide +kernel)) (
  mA (i := 4) (ok_gI (pc := 8) rfl (by decide +kernel) wd_264 inw_9 rfl rfl (by decide +kernel)) (
  mA (i := 5) (ok_si (n := 193) (pc := 11) (by decide +kernel) rfl rfl (by decide +kernel)) (
  mA (i := 6) (ok_cge (off := 9) (pc := 14) (tgt := 23) rfl rfl rfl (by decide +kernel) (by decide +kernel)) (
  mA (i := 7) (ok_ild_n (f := 3) (pc := 17) rfl rfl rfl (by decide +kernel)) (
  mA (i := 8) (ok_bi (n := 8) (pc := 18) (by decide +kernel) rfl rfl (by decide +kernel)) (
  mA (i := 9) (ok_cle (off := 4) (pc := 20) (tgt := 24) rfl rfl rfl (by decide +kernel) (by decide +kernel)) (
  mA (i := 10) (ok_vret (pc := 23) rfl rfl (by decide +kernel)) (
  mA (i := 11) (ok_ald_n (f := 0) (pc := 24) rfl rfl rfl (by decide +kernel)) (
  mA (i := 12) (ok_gI (pc := 25) rfl (by decide +kernel) wd_264 inw_9 rfl rfl (by decide +kernel)) (
  mA (i := 13) (ok_ist (pc := 28) (by decide +kernel) rfl rfl rfl (by decide +kernel)) (
  mA (i := 14) (ok_ald_n (f := 0) (pc := 30) rfl rfl rfl (by decide +kernel)) (
  mA (i := 15) (ok_dup (pc := 31) rfl rfl (by decide +kernel)) (
  mA (i := 16) (ok_gI (pc := 32) rfl (by decide +kernel) wd_264 inw_9 rfl rfl (by decide +kernel)) (
  mA (i := 17) (ok_ic (n := 1) (pc := 35) (by decide +kernel) rfl rfl (by decide +kernel)) (
  mA (i := 18) (ok_add (pc := 36) rfl rfl (by decide +kernel)) (
  mA (i := 19) (ok_pI (pc := 37) rfl (by decide +kernel) wd_264 inw_9 tyX8_ok nmX8 rfl (by decide +kernel) rfl rfl (by decide +kernel)) (
  mA (i := 20) (ok_ald_n (f := 0) (pc := 40) rfl rfl rfl (by decide +kernel)) (
  mA (i := 21) (ok_gP (pc := 41) rfl (by decide +kernel) wd_260 inw_9 rfl rfl (by decide +kernel)) (
  mA (i := 22) (ok_ild (pc := 44) rfl rfl (by decide +kernel)) (
  mA (i := 23) (ok_ild_n (f := 3) (pc := 46) rfl rfl rfl (by decide +kernel)) (
  mA (i := 24) (ok_iast (pc := 47) rfl rfl (by decide +kernel)) (
  mA (i := 25) (ok_ald_n (f := 0) (pc := 48) rfl rfl rfl (by decide +kernel)) (
  mA (i := 26) (ok_gP (pc := 49) rfl (by decide +kernel) wd_261 inw_9 rfl rfl (by decide +kernel)) (
  mA (i := 27) (ok_ild (pc := 52) rfl rfl (by decide +kernel)) (
  mA (i := 28) (ok_ild (pc := 54) rfl rfl (by decide +kernel)) (
  mA (i := 29) (ok_iast (pc := 56) rfl rfl (by decide +kernel)) (
  mA (i := 30) (ok_ald_n (f := 0) (pc := 57) rfl rfl rfl (by decide +kernel)) (
  mA (i := 31) (ok_gP (pc := 58) rfl (by decide +kernel) wd_263 inw_9 rfl rfl (by decide +kernel)) (
  mA (i := 32) (ok_ild (pc := 61) rfl rfl (by decide +kernel)) (
  mA (i := 33) (ok_ild_n (f := 2) (pc := 63) rfl rfl rfl (by decide +kernel)) (
  mA (i := 34) (ok_iast (pc := 64) rfl rfl (by decide +kernel)) (
  mA (i := 35) (ok_ald_n (f := 0) (pc := 65) rfl rfl rfl (by decide +kernel)) (
  mA (i := 36) (ok_gP (pc := 66) rfl (by decide +kernel) wd_262 inw_9 rfl rfl (by decide +kernel)) (
  mA (i := 37) (ok_ild (pc := 69) rfl rfl (by decide +kernel)) (
  mA (i := 38) (ok_ic (n := 0) (pc := 71) (by decide +kernel) rfl rfl (by decide +kernel)) (
  mA (i := 39) (ok_iast (pc := 72) rfl rfl (by decide +kernel)) (
  mA (i := 40) (ok_ald_n (f := 1) (pc := 73) rfl rfl rfl (by decide +kernel)) (
  mA (i := 41) (ok_ild_n (f := 3) (pc := 74) rfl rfl rfl (by decide +kernel)) (
  mA (i := 42) (ok_callI (pc := 75) (can_V cal_St_featureAt (by decide +kernel) rfl (by decide +kernel) rfl wd_270 wd_149 wd_150 wd_80 (by decide +kernel)) rfl rfl) (
  mA (i := 43) (ok_ist (pc := 78) (by decide +kernel) rfl rfl rfl (by decide +kernel)) (
  mA (i := 44) (ok_ild (pc := 80) rfl rfl (by decide +kernel)) (
  mA (i := 45) (ok_ic (n := (-1)) (pc := 82) (by decide +kernel) rfl rfl (by decide +kernel)) (
  mA (i := 46) (ok_cne (off := 4) (pc := 83) (tgt := 87) rfl rfl rfl (by decide +kernel) (by decide +kernel)) (
  mA (i := 47) (ok_vret (pc := 86) rfl rfl (by decide +kernel)) (
  mA (i := 48) (ok_ild_n (f := 2) (pc := 87) rfl rfl rfl (by decide +kernel)) (
  mA (i := 49) (ok_ist (pc := 88) (by decide +kernel) rfl rfl rfl (by decide +kernel)) (
  mA (i := 50) (ok_ic (n := 0) (pc := 90) (by decide +kernel) rfl rfl (by decide +kernel)) (
  mA (i := 51) (ok_ist (pc := 91) (by decide +kernel) rfl rfl rfl (by decide +kernel)) (
  mA (i := 52) (ok_ild (pc := 93) rfl rfl (by decide +kernel)) (
  mA (i := 53) (ok_bi (n := 24) (pc := 95) (by decide +kernel) rfl rfl (by decide +kernel)) (
  mA (i := 54) (ok_cge (off := 68) (pc := 97) (tgt := 165) rfl rfl rfl (by decide +kernel) (by decide +kernel)) (
  mA (i := 55) (ok_ild (pc := 100) rfl rfl (by decide +kernel)) (
  mA (i := 56) (ok_ifeq (off := 63) (pc := 102) (tgt := 165) rfl rfl rfl (by decide +kernel) (by decide +kernel)) (
  mA (i := 57) (ok_ald_n (f := 1) (pc := 105) rfl rfl rfl (by decide +kernel)) (
  mA (i := 58) (ok_ild (pc := 106) rfl rfl (by decide +kernel)) (
  mA (i := 59) (ok_ild (pc := 108) rfl rfl (by decide +kernel)) (
  ok_Tr_branch_t60))))))))))))))))))))))))))))))))))))))))))))))))))))))))))))
set_option maxRecDepth 20000 in
theorem ok_Tr_size : mAll (mOk RX8 cX8_size 1 true false (some .int) (mnat p_Tr_size)) 0 k_Tr_size := mA (i := 0) (ok_ald_n (f := 0) (pc := 0) rfl rfl rfl (by decide +kernel)) (
  mA (i := 1) (ok_gI (pc := 1) rfl (by decide +kernel) wd_264 inw_9 rfl rfl (by decide +kernel)) (
  mA (i := 2) (ok_iret (pc := 4) rfl rfl (by decide +kernel)) (
  mZ)))
set_option maxRecDepth 20000 in
theorem ok_Tr_levelOf : mAll (mOk RX8 cX8_levelOf 2 true false (some .int) (mnat p_Tr_levelOf)) 0 k_Tr_levelOf := mA (i := 0) (ok_ild_n (f := 1) (pc := 0) rfl rfl rfl (by decide +kernel)) (
  mA (i := 1) (ok_iflt (off := 19) (pc := 1) (tgt := 20) rfl rfl rfl (by decide +kernel) (by decide +kernel)) (
  mA (i := 2) (ok_ild_n (f := 1) (pc := 4) rfl rfl rfl (by decide +kernel)) (
  mA (i := 3) (ok_si (n := 193) (pc := 5) (by decide +kernel) rfl rfl (by decide +kernel)) (
  mA (i := 4) (ok_cge (off := 12) (pc := 8) (tgt := 20) rfl rfl rfl (by decide +kernel) (by decide +kernel)) (
  mA (i := 5) (ok_ald_n (f := 0) (pc := 11) rfl rfl rfl (by decide +kernel)) (
  mA (i := 6) (ok_gP (pc := 12) rfl (by decide +kernel) wd_260 inw_9 rfl rfl (by decide +kernel)) (
  mA (i := 7) (ok_ild_n (f := 1) (pc := 15) rfl rfl rfl (by decide +kernel)) (
  mA (i := 8) (ok_iald (pc := 16) rfl rfl (by decide +kernel)) (
  mA (i := 9) (ok_goto (off := 4) (pc := 17) (tgt := 21) rfl rfl (by decide +kernel) (by decide +kernel)) (
  mA (i := 10) (ok_ic (n := (-1)) (pc := 20) (by decide +kernel) rfl rfl (by decide +kernel)) (
  mA (i := 11) (ok_iret (pc := 21) rfl rfl (by decide +kernel)) (
  mZ))))))))))))
set_option maxRecDepth 20000 in
theorem ok_Tr_valueOf : mAll (mOk RX8 cX8_valueOf 2 true false (some .int) (mnat p_Tr_valueOf)) 0 k_Tr_valueOf := mA (i := 0) (ok_ild_n (f := 1) (pc := 0) rfl rfl rfl (by decide +kernel)) (
  mA (i := 1) (ok_iflt (off := 19) (pc := 1) (tgt := 20) rfl rfl rfl (by decide +kernel) (by decide +kernel)) (
  mA (i := 2) (ok_ild_n (f := 1) (pc := 4) rfl rfl rfl (by decide +kernel)) (
  mA (i := 3) (ok_si (n := 193) (pc := 5) (by decide +kernel) rfl rfl (by decide +kernel)) (
  mA (i := 4) (ok_cge (off := 12) (pc := 8) (tgt := 20) rfl rfl rfl (by decide +kernel) (by decide +kernel)) (
  mA (i := 5) (ok_ald_n (f := 0) (pc := 11) rfl rfl rfl (by decide +kernel)) (
  mA (i := 6) (ok_gP (pc := 12) rfl (by decide +kernel) wd_261 inw_9 rfl rfl (by decide +kernel)) (
  mA (i := 7) (ok_ild_n (f := 1) (pc := 15) rfl rfl rfl (by decide +kernel)) (
  mA (i := 8) (ok_iald (pc := 16) rfl rfl (by decide +kernel)) (
  mA (i := 9) (ok_goto (off := 4) (pc := 17) (tgt := 21) rfl rfl (by decide +kernel) (by decide +kernel)) (
  mA (i := 10) (ok_ic (n := (-1)) (pc := 20) (by decide +kernel) rfl rfl (by decide +kernel)) (
  mA (i := 11) (ok_iret (pc := 21) rfl rfl (by decide +kernel)) (
  mZ))))))))))))
set_option maxRecDepth 20000 in
theorem ok_Tr_childrenOf : mAll (mOk RX8 cX8_childrenOf 2 true false (some .int) (mnat p_Tr_childrenOf)) 0 k_Tr_childrenOf := mA (i := 0) (ok_ild_n (f := 1) (pc := 0) rfl rfl rfl (by decide +kernel)) (
  mA (i := 1) (ok_iflt (off := 19) (pc := 1) (tgt := 20) rfl rfl rfl (by decide +kernel) (by decide +kernel)) (
  mA (i := 2) (ok_ild_n (f := 1) (pc := 4) rfl rfl rfl (by decide +kernel)) (
  mA (i := 3) (ok_si (n := 193) (pc := 5) (by decide +kernel) rfl rfl (by decide +kernel)) (
  mA (i := 4) (ok_cge (off := 12) (pc := 8) (tgt := 20) rfl rfl rfl (by decide +kernel) (by decide +kernel)) (
  mA (i := 5) (ok_ald_n (f := 0) (pc := 11) rfl rfl rfl (by decide +kernel)) (
  mA (i := 6) (ok_gP (pc := 12) rfl (by decide +kernel) wd_262 inw_9 rfl rfl (by decide +kernel)) (
  mA (i := 7) (ok_ild_n (f := 1) (pc := 15) rfl rfl rfl (by decide +kernel)) (
  mA (i := 8) (ok_iald (pc := 16) rfl rfl (by decide +kernel)) (
  mA (i := 9) (ok_goto (off := 4) (pc := 17) (tgt := 21) rfl rfl (by decide +kernel) (by decide +kernel)) (
  mA (i := 10) (ok_ic (n := 0) (pc := 20) (by decide +kernel) rfl rfl (by decide +kernel)) (
  mA (i := 11) (ok_iret (pc := 21) rfl rfl (by decide +kernel)) (
  mZ))))))))))))
set_option maxRecDepth 20000 in
theorem ok_Tr_membersOf : mAll (mOk RX8 cX8_membersOf 2 true false (some .int) (mnat p_Tr_membersOf)) 0 k_Tr_membersOf := mA (i := 0) (ok_ild_n (f := 1) (pc := 0) rfl rfl rfl (by decide +kernel)) (
  mA (i := 1) (ok_iflt (off := 19) (pc := 1) (tgt := 20) rfl rfl rfl (by decide +kernel) (by decide +kernel)) (
  mA (i := 2) (ok_ild_n (f := 1) (pc := 4) rfl rfl rfl (by decide +kernel)) (
  mA (i := 3) (ok_si (n := 193) (pc := 5) (by decide +kernel) rfl rfl (by decide +kernel)) (
  mA (i := 4) (ok_cge (off := 12) (pc := 8) (tgt := 20) rfl rfl rfl (by decide +kernel) (by decide +kernel)) (
  mA (i := 5) (ok_ald_n (f := 0) (pc := 11) rfl rfl rfl (by decide +kernel)) (
  mA (i := 6) (ok_gP (pc := 12) rfl (by decide +kernel) wd_263 inw_9 rfl rfl (by decide +kernel)) (
  mA (i := 7) (ok_ild_n (f := 1) (pc := 15) rfl rfl rfl (by decide +kernel)) (
  mA (i := 8) (ok_iald (pc := 16) rfl rfl (by decide +kernel)) (
  mA (i := 9) (ok_goto (off := 4) (pc := 17) (tgt := 21) rfl rfl (by decide +kernel) (by decide +kernel)) (
  mA (i := 10) (ok_ic (n := 0) (pc := 20) (by decide +kernel) rfl rfl (by decide +kernel)) (
  mA (i := 11) (ok_iret (pc := 21) rfl rfl (by decide +kernel)) (
  mZ))))))))))))
set_option maxRecDepth 20000 in
theorem ok_Tr_endOf : mAll (mOk RX8 cX8_endOf 4 true false (some .int) (mnat p_Tr_endOf)) 0 k_Tr_endOf := mA (i := 0) (ok_ic (n := 0) (pc := 0) (by decide +kernel) rfl rfl (by decide +kernel)) (
  mA (i := 1) (ok_ist_n (f := 3) (pc := 1) rfl (by decide +kernel) rfl rfl rfl (by decide +kernel)) (
  mA (i := 2) (ok_ild_n (f := 3) (pc := 2) rfl rfl rfl (by decide +kernel)) (
  mA (i := 3) (ok_ald_n (f := 0) (pc := 3) rfl rfl rfl (by decide +kernel)) (
  mA (i := 4) (ok_gI (pc := 4) rfl (by decide +kernel) wd_264 inw_9 rfl rfl (by decide +kernel)) (
  mA (i := 5) (ok_cge (off := 33) (pc := 7) (tgt := 40) rfl rfl rfl (by decide +kernel) (by decide +kernel)) (
  mA (i := 6) (ok_ald_n (f := 0) (pc := 10) rfl rfl rfl (by decide +kernel)) (
  mA (i := 7) (ok_ild_n (f := 3) (pc := 11) rfl rfl rfl (by decide +kernel)) (
  mA (i := 8) (ok_callI (pc := 12) (can_V cal_Tr_levelOf (by decide +kernel) rfl (by decide +kernel) rfl wd_277 wd_278 wd_279 wd_269 (by decide +kernel)) rfl rfl) (
  mA (i := 9) (ok_ild_n (f := 2) (pc := 15) rfl rfl rfl (by decide +kernel)) (
  mA (i := 10) (ok_cne (off := 18) (pc := 16) (tgt := 34) rfl rfl rfl (by decide +kernel) (by decide +kernel)) (
  mA (i := 11) (ok_ald_n (f := 0) (pc := 19) rfl rfl rfl (by decide +kernel)) (
  mA (i := 12) (ok_ild_n (f := 3) (pc := 20) rfl rfl rfl (by decide +kernel)) (
  mA (i := 13) (ok_callI (pc := 21) (can_V cal_Tr_membersOf (by decide +kernel) rfl (by decide +kernel) rfl wd_280 wd_281 wd_282 wd_269 (by decide +kernel)) rfl rfl) (
  mA (i := 14) (ok_ild_n (f := 1) (pc := 24) rfl rfl rfl (by decide +kernel)) (
  mA (i := 15) (ok_shr (pc := 25) rfl rfl (by decide +kernel)) (
  mA (i := 16) (ok_ic (n := 1) (pc := 26) (by decide +kernel) rfl rfl (by decide +kernel)) (
  mA (i := 17) (ok_and (pc := 27) rfl rfl (by decide +kernel)) (
  mA (i := 18) (ok_ic (n := 1) (pc := 28) (by decide +kernel) rfl rfl (by decide +kernel)) (
  mA (i := 19) (ok_cne (off := 5) (pc := 29) (tgt := 34) rfl rfl rfl (by decide +kernel) (by decide +kernel)) (
  mA (i := 20) (ok_ild_n (f := 3) (pc := 32) rfl rfl rfl (by decide +kernel)) (
  mA (i := 21) (ok_iret (pc := 33) rfl rfl (by decide +kernel)) (
  mA (i := 22) (ok_inc (z := 1) (pc := 34) (by decide +kernel) (by decide +kernel) rfl rfl rfl (by decide +kernel)) (
  mA (i := 23) (ok_goto (off := (-35)) (pc := 37) (tgt := 2) rfl rfl (by decide +kernel) (by decide +kernel)) (
  mA (i := 24) (ok_ic (n := (-1)) (pc := 40) (by decide +kernel) rfl rfl (by decide +kernel)) (
  mA (i := 25) (ok_iret (pc := 41) rfl rfl (by decide +kernel)) (
  mZ))))))))))))))))))))))))))
set_option maxRecDepth 20000 in
theorem ok_Tr_walk : mAll (mOk RX8 cX8_walk 9 true false (some .int) (mnat p_Tr_walk)) 0 k_Tr_walk := mA (i := 0) (ok_ald_n (f := 0) (pc := 0) rfl rfl rfl (by decide +kernel)) (
  mA (i := 1) (ok_ic (n := 0) (pc := 1) (by decide +kernel) rfl rfl (by decide +kernel)) (
  mA (i := 2) (ok_pI (pc := 2) rfl (by decide +kernel) wd_283 inw_9 tyX8_ok nmX8 rfl (by decide +kernel) rfl rfl (by decide +kernel)) (
  mA (i := 3) (ok_ic (n := 0) (pc := 5) (by decide +kernel) rfl rfl (by decide +kernel)) (
  mA (i := 4) (ok_ist (pc := 6) (by decide +kernel) rfl rfl rfl (by decide +kernel)) (
  mA (i := 5) (ok_bi (n := 8) (pc := 8) (by decide +kernel) rfl rfl (by decide +kernel)) (
  mA (i := 6) (ok_ist (pc := 10) (by decide +kernel) rfl rfl rfl (by decide +kernel)) (
  mA (i := 7) (ok_ic (n := 0) (pc := 12) (by decide +kernel) rfl rfl (by decide +kernel)) (
  mA (i := 8) (ok_ist (pc := 13) (by decide +kernel) rfl rfl rfl (by decide +kernel)) (
  mA (i := 9) (ok_ild (pc := 15) rfl rfl (by decide +kernel)) (
  mA (i := 10) (ok_ald_n (f := 0) (pc := 17) rfl rfl rfl (by decide +kernel)) (
  mA (i := 11) (ok_gI (pc := 18) rfl (by decide +kernel) wd_264 inw_9 rfl rfl (by decide +kernel)) (
  mA (i := 12) (ok_cge (off := 86) (pc := 21) (tgt := 107) rfl rfl rfl (by decide +kernel) (by decide +kernel)) (
  mA (i := 13) (ok_ald_n (f := 0) (pc := 24) rfl rfl rfl (by decide +kernel)) (
  mA (i := 14) (ok_ild (pc := 25) rfl rfl (by decide +kernel)) (
  mA (i := 15) (ok_callI (pc := 27) (can_V cal_Tr_levelOf (by decide +kernel) rfl (by decide +kernel) rfl wd_277 wd_278 wd_279 wd_269 (by decide +kernel)) rfl rfl) (
  mA (i := 16) (ok_ist (pc := 30) (by decide +kernel) rfl rfl rfl (by decide +kernel)) (
  mA (i := 17) (ok_ild (pc := 32) rfl rfl (by decide +kernel)) (
  mA (i := 18) (ok_ild (pc := 34) rfl rfl (by decide +kernel)) (
  mA (i := 19) (ok_cle (off := 6) (pc := 36) (tgt := 42) rfl rfl rfl (by decide +kernel) (by decide +kernel)) (
  mA (i := 20) (ok_goto (off := 62) (pc := 39) (tgt := 101) rfl rfl (by decide +kernel) (by decide +kernel)) (
  mA (i := 21) (ok_ald_n (f := 0) (pc := 42) rfl rfl rfl (by decide +kernel)) (
  mA (i := 22) (ok_ild (pc := 43) rfl rfl (by decide +kernel)) (
  mA (i := 23) (ok_ald_n (f := 1) (pc := 45) rfl rfl rfl (by decide +kernel)) (
  mA (i := 24) (ok_ild (pc := 46) rfl rfl (by decide +kernel)) (
  mA (i := 25) (ok_ic (n := 1) (pc := 48) (by decide +kernel) rfl rfl (by decide +kernel)) (
  mA (i := 26) (ok_sub (pc := 49) rfl rfl (by decide +kernel)) (
  mA (i := 27) (ok_callI (pc := 50) (can_V cal_St_featureAt (by decide +kernel) rfl (by decide +kernel) rfl wd_270 wd_149 wd_150 wd_80 (by decide +kernel)) rfl rfl) (
  mA (i := 28) (ok_ald_n (f := 2) (pc := 53) rfl rfl rfl (by decide +kernel)) (
  mA (i := 29) (ok_ild_n (f := 3) (pc := 54) rfl rfl rfl (by decide +kernel)) (
  mA (i := 30) (ok_ild (pc := 55) rfl rfl (by decide +kernel)) (
  mA (i := 31) (ok_callI (pc := 57) (can_V cal_Tr_passes (by decide +kernel) rfl (by decide +kernel) rfl wd_284 wd_285 wd_286 wd_269 (by decide +kernel)) rfl rfl) (
  mA (i := 32) (ok_ifne (off := 10) (pc := 60) (tgt := 70) rfl rfl rfl (by decide +kernel) (by decide +kernel)) (
  mA (i := 33) (ok_ild (pc := 63) rfl rfl (by decide +kernel)) (
  mA (i := 34) (ok_ist (pc := 65) (by decide +kernel) rfl rfl rfl (by decide +kernel)) (
  mA (i := 35) (ok_goto (off := 34) (pc := 67) (tgt := 101) rfl rfl (by decide +kernel) (by decide +kernel)) (
  mA (i := 36) (ok_bi (n := 8) (pc := 70) (by decide +kernel) rfl rfl (by decide +kernel)) (
  mA (i := 37) (ok_ist (pc := 72) (by decide +kernel) rfl rfl rfl (by decide +kernel)) (
  mA (i := 38) (ok_inc (z := 1) (pc := 74) (by decide +kernel) (by decide +kernel) rfl rfl rfl (by decide +kernel)) (
  mA (i := 39) (ok_ild (pc := 77) rfl rfl (by decide +kernel)) (
  mA (i := 40) (ok_ald_n (f := 1) (pc := 79) rfl rfl rfl (by decide +kernel)) (
  mA (i := 41) (ok_callI (pc := 80) (can_V cal_St_laid (by decide +kernel) rfl (by decide +kernel) rfl wd_287 wd_146 wd_147 wd_80 (by decide +kernel)) rfl rfl) (
  mA (i := 42) (ok_cne (off := 18) (pc := 83) (tgt := 101) rfl rfl rfl (by decide +kernel) (by decide +kernel)) (
  mA (i := 43) (ok_ald_n (f := 0) (pc := 86) rfl rfl rfl (by decide +kernel)) (
  mA (i := 44) (ok_dup (pc := 87) rfl rfl (by decide +kernel)) (
  mA (i := 45) (ok_gI (pc := 88) rfl (by decide +kernel) wd_283 inw_9 rfl rfl (by decide +kernel)) (
  mA (i := 46) (ok_ald_n (f := 0) (pc := 91) rfl rfl rfl (by decide +kernel)) (
  mA (i := 47) (ok_ild (pc := 92) rfl rfl (by decide +kernel)) (
  mA (i := 48) (ok_callI (pc := 94) (can_V cal_Tr_membersOf (by decide +kernel) rfl (by decide +kernel) rfl wd_280 wd_281 wd_282 wd_269 (by decide +kernel)) rfl rfl) (
  mA (i := 49) (ok_or (pc := 97) rfl rfl (by decide +kernel)) (
  mA (i := 50) (ok_pI (pc := 98) rfl (by decide +kernel) wd_283 inw_9 tyX8_ok nmX8 rfl (by decide +kernel) rfl rfl (by decide +kernel)) (
  mA (i := 51) (ok_inc (z := 1) (pc := 101) (by decide +kernel) (by decide +kernel) rfl rfl rfl (by decide +kernel)) (
  mA (i := 52) (ok_goto (off := (-89)) (pc := 104) (tgt := 15) rfl rfl (by decide +kernel) (by decide +kernel)) (
  mA (i := 53) (ok_ild (pc := 107) rfl rfl (by decide +kernel)) (
  mA (i := 54) (ok_iret (pc := 109) rfl rfl (by decide +kernel)) (
  mZ)))))))))))))))))))))))))))))))))))))))))))))))))))))))
set_option maxRecDepth 20000 in
theorem ok_Tr_passes : mAll (mOk RX8 cX8_passes 8 true false (some .boolean) (mnat p_Tr_passes)) 0 k_Tr_passes := mA (i := 0) (ok_ild_n (f := 1) (pc := 0) rfl rfl rfl (by decide +kernel)) (
  mA (i := 1) (ok_ifne (off := 5) (pc := 1) (tgt := 6) rfl rfl rfl (by decide +kernel) (by decide +kernel)) (
  mA (i := 2) (ok_ic (n := 1) (pc := 4) (by decide +kernel) rfl rfl (by decide +kernel)) (
  mA (i := 3) (ok_zret (pc := 5) rfl rfl (by decide +kernel)) (
  mA (i := 4) (ok_ild_n (f := 2) (pc := 6) rfl rfl rfl (by decide +kernel)) (
  mA (i := 5) (ok_ald_n (f := 0) (pc := 7) rfl rfl rfl (by decide +kernel)) (
  mA (i := 6) (ok_ild_n (f := 1) (pc := 8) rfl rfl rfl (by decide +kernel)) (
  mA (i := 7) (ok_callI (pc := 9) (can_V cal_Tr_valueOf (by decide +kernel) rfl (by decide +kernel) rfl wd_288 wd_289 wd_290 wd_269 (by decide +kernel)) rfl rfl) (
  mA (i := 8) (ok_ild (pc := 12) rfl rfl (by decide +kernel)) (
  mA (i := 9) (ok_callI (pc := 14) (can_SN cal_C_byMode (by decide +kernel) wn_291 wd_39 wd_35 (by decide +kernel)) rfl rfl) (
  mA (i := 10) (ok_ist (pc := 17) (by decide +kernel) rfl rfl rfl (by decide +kernel)) (
  mA (i := 11) (ok_ald_n (f := 3) (pc := 19) rfl rfl rfl (by decide +kernel)) (
  mA (i := 12) (ok_ild_n (f := 2) (pc := 20) rfl rfl rfl (by decide +kernel)) (
  mA (i := 13) (ok_ild (pc := 21) rfl rfl (by decide +kernel)) (
  mA (i := 14) (ok_callI (pc := 23) (can_V cal_Cl_measure (by decide +kernel) rfl (by decide +kernel) rfl wd_292 wd_174 wd_175 wd_24 (by decide +kernel)) rfl rfl) (
  mA (i := 15) (ok_ist (pc := 26) (by decide +kernel) rfl rfl rfl (by decide +kernel)) (
  mA (i := 16) (ok_ild (pc := 28) rfl rfl (by decide +kernel)) (
  mA (i := 17) (ok_ifne (off := 18) (pc := 30) (tgt := 48) rfl rfl rfl (by decide +kernel) (by decide +kernel)) (
  mA (i := 18) (ok_ild (pc := 33) rfl rfl (by decide +kernel)) (
  mA (i := 19) (ok_ild (pc := 35) rfl rfl (by decide +kernel)) (
  mA (i := 20) (ok_cgt (off := 7) (pc := 37) (tgt := 44) rfl rfl rfl (by decide +kernel) (by decide +kernel)) (
  mA (i := 21) (ok_ic (n := 1) (pc := 40) (by decide +kernel) rfl rfl (by decide +kernel)) (
  mA (i := 22) (ok_goto (off := 19) (pc := 41) (tgt := 60) rfl rfl (by decide +kernel) (by decide +kernel)) (
  mA (i := 23) (ok_ic (n := 0) (pc := 44) (by decide +kernel) rfl rfl (by decide +kernel)) (
  mA (i := 24) (ok_goto (off := 15) (pc := 45) (tgt := 60) rfl rfl (by decide +kernel) (by decide +kernel)) (
  mA (i := 25) (ok_ild (pc := 48) rfl rfl (by decide +kernel)) (
  mA (i := 26) (ok_ild (pc := 50) rfl rfl (by decide +kernel)) (
  mA (i := 27) (ok_clt (off := 7) (pc := 52) (tgt := 59) rfl rfl rfl (by decide +kernel) (by decide +kernel)) (
  mA (i := 28) (ok_ic (n := 1) (pc := 55) (by decide +kernel) rfl rfl (by decide +kernel)) (
  mA (i := 29) (ok_goto (off := 4) (pc := 56) (tgt := 60) rfl rfl (by decide +kernel) (by decide +kernel)) (
  mA (i := 30) (ok_ic (n := 0) (pc := 59) (by decide +kernel) rfl rfl (by decide +kernel)) (
  mA (i := 31) (ok_zret (pc := 60) rfl rfl (by decide +kernel)) (
  mZ))))))))))))))))))))))))))))))))
set_option maxRecDepth 20000 in
theorem ok_Tr_reachedBits : mAll (mOk RX8 cX8_reachedBits 1 true false (some .int) (mnat p_Tr_reachedBits)) 0 k_Tr_reachedBits := mA (i := 0) (ok_ald_n (f := 0) (pc := 0) rfl rfl rfl (by decide +kernel)) (
  mA (i := 1) (ok_gI (pc := 1) rfl (by decide +kernel) wd_283 inw_9 rfl rfl (by decide +kernel)) (
  mA (i := 2) (ok_iret (pc := 4) rfl rfl (by decide +kernel)) (
  mZ)))
set_option maxRecDepth 20000 in
theorem ok_Ji_bitCount : mAll (mOk RJ6 cJ6_bitCount_0f7a4 1 true false (some .int) (mnat p_Ji_bitCount)) 0 k_Ji_bitCount := mA (i := 0) (ok_ild_n (f := 0) (pc := 0) rfl rfl rfl (by decide +kernel)) (
  mA (i := 1) (ok_ild_n (f := 0) (pc := 1) rfl rfl rfl (by decide +kernel)) (
  mA (i := 2) (ok_ic (n := 1) (pc := 2) (by decide +kernel) rfl rfl (by decide +kernel)) (
  mA (i := 3) (ok_ushr (pc := 3) rfl rfl (by decide +kernel)) (
  mA (i := 4) (ok_ldcw (pc := 4) wd_831 rfl rfl (by decide +kernel)) (
  mA (i := 5) (ok_and (pc := 7) rfl rfl (by decide +kernel)) (
  mA (i := 6) (ok_sub (pc := 8) rfl rfl (by decide +kernel)) (
  mA (i := 7) (ok_ist_n (f := 0) (pc := 9) rfl (by decide +kernel) rfl rfl rfl (by decide +kernel)) (
  mA (i := 8) (ok_ild_n (f := 0) (pc := 10) rfl rfl rfl (by decide +kernel)) (
  mA (i := 9) (ok_ldcw (pc := 11) wd_832 rfl rfl (by decide +kernel)) (
  mA (i := 10) (ok_and (pc := 14) rfl rfl (by decide +kernel)) (
  mA (i := 11) (ok_ild_n (f := 0) (pc := 15) rfl rfl rfl (by decide +kernel)) (
  mA (i := 12) (ok_ic (n := 2) (pc := 16) (by decide +kernel) rfl rfl (by decide +kernel)) (
  mA (i := 13) (ok_ushr (pc := 17) rfl rfl (by decide +kernel)) (
  mA (i := 14) (ok_ldcw (pc := 18) wd_832 rfl rfl (by decide +kernel)) (
  mA (i := 15) (ok_and (pc := 21) rfl rfl (by decide +kernel)) (
  mA (i := 16) (ok_add (pc := 22) rfl rfl (by decide +kernel)) (
  mA (i := 17) (ok_ist_n (f := 0) (pc := 23) rfl (by decide +kernel) rfl rfl rfl (by decide +kernel)) (
  mA (i := 18) (ok_ild_n (f := 0) (pc := 24) rfl rfl rfl (by decide +kernel)) (
  mA (i := 19) (ok_ild_n (f := 0) (pc := 25) rfl rfl rfl (by decide +kernel)) (
  mA (i := 20) (ok_ic (n := 4) (pc := 26) (by decide +kernel) rfl rfl (by decide +kernel)) (
  mA (i := 21) (ok_ushr (pc := 27) rfl rfl (by decide +kernel)) (
  mA (i := 22) (ok_add (pc := 28) rfl rfl (by decide +kernel)) (
  mA (i := 23) (ok_ldcw (pc := 29) wd_833 rfl rfl (by decide +kernel)) (
  mA (i := 24) (ok_and (pc := 32) rfl rfl (by decide +kernel)) (
  mA (i := 25) (ok_ist_n (f := 0) (pc := 33) rfl (by decide +kernel) rfl rfl rfl (by decide +kernel)) (
  mA (i := 26) (ok_ild_n (f := 0) (pc := 34) rfl rfl rfl (by decide +kernel)) (
  mA (i := 27) (ok_ild_n (f := 0) (pc := 35) rfl rfl rfl (by decide +kernel)) (
  mA (i := 28) (ok_bi (n := 8) (pc := 36) (by decide +kernel) rfl rfl (by decide +kernel)) (
  mA (i := 29) (ok_ushr (pc := 38) rfl rfl (by decide +kernel)) (
  mA (i := 30) (ok_add (pc := 39) rfl rfl (by decide +kernel)) (
  mA (i := 31) (ok_ist_n (f := 0) (pc := 40) rfl (by decide +kernel) rfl rfl rfl (by decide +kernel)) (
  mA (i := 32) (ok_ild_n (f := 0) (pc := 41) rfl rfl rfl (by decide +kernel)) (
  mA (i := 33) (ok_ild_n (f := 0) (pc := 42) rfl rfl rfl (by decide +kernel)) (
  mA (i := 34) (ok_bi (n := 16) (pc := 43) (by decide +kernel) rfl rfl (by decide +kernel)) (
  mA (i := 35) (ok_ushr (pc := 45) rfl rfl (by decide +kernel)) (
  mA (i := 36) (ok_add (pc := 46) rfl rfl (by decide +kernel)) (
  mA (i := 37) (ok_ist_n (f := 0) (pc := 47) rfl (by decide +kernel) rfl rfl rfl (by decide +kernel)) (
  mA (i := 38) (ok_ild_n (f := 0) (pc := 48) rfl rfl rfl (by decide +kernel)) (
  mA (i := 39) (ok_bi (n := 63) (pc := 49) (by decide +kernel) rfl rfl (by decide +kernel)) (
  mA (i := 40) (ok_and (pc := 51) rfl rfl (by decide +kernel)) (
  mA (i := 41) (ok_iret (pc := 52) rfl rfl (by decide +kernel)) (
  mZ))))))))))))))))))))))))))))))))))))))))))
set_option maxRecDepth 20000 in
theorem ok_Jm_floorMod : mAll (mOk RJ9 cJ9_floorMod_7cf53 3 true false (some .int) (mnat p_Jm_floorMod)) 0 k_Jm_floorMod := mA (i := 0) (ok_ild_n (f := 0) (pc := 0) rfl rfl rfl (by decide +kernel)) (
  mA (i := 1) (ok_ild_n (f := 1) (pc := 1) rfl rfl rfl (by decide +kernel)) (
  mA (i := 2) (ok_rem (pc := 2) rfl rfl (by decide +kernel)) (
  mA (i := 3) (ok_ist_n (f := 2) (pc := 3) rfl (by decide +kernel) rfl rfl rfl (by decide +kernel)) (
  mA (i := 4) (ok_ild_n (f := 0) (pc := 4) rfl rfl rfl (by decide +kernel)) (
  mA (i := 5) (ok_ild_n (f := 1) (pc := 5) rfl rfl rfl (by decide +kernel)) (
  mA (i := 6) (ok_xor (pc := 6) rfl rfl (by decide +kernel)) (
  mA (i := 7) (ok_ifge (off := 11) (pc := 7) (tgt := 18) rfl rfl rfl (by decide +kernel) (by decide +kernel)) (
  mA (i := 8) (ok_ild_n (f := 2) (pc := 10) rfl rfl rfl (by decide +kernel)) (
  mA (i := 9) (ok_ifeq (off := 7) (pc := 11) (tgt := 18) rfl rfl rfl (by decide +kernel) (by decide +kernel)) (
  mA (i := 10) (ok_ild_n (f := 2) (pc := 14) rfl rfl rfl (by decide +kernel)) (
  mA (i := 11) (ok_ild_n (f := 1) (pc := 15) rfl rfl rfl (by decide +kernel)) (
  mA (i := 12) (ok_add (pc := 16) rfl rfl (by decide +kernel)) (
  mA (i := 13) (ok_iret (pc := 17) rfl rfl (by decide +kernel)) (
  mA (i := 14) (ok_ild_n (f := 2) (pc := 18) rfl rfl rfl (by decide +kernel)) (
  mA (i := 15) (ok_iret (pc := 19) rfl rfl (by decide +kernel)) (
  mZ))))))))))))))))
set_option maxRecDepth 20000 in
theorem ok_Jm_max : mAll (mOk RJ9 cJ9_max_7cf53 2 true false (some .int) (mnat p_Jm_max)) 0 k_Jm_max := mA (i := 0) (ok_ild_n (f := 0) (pc := 0) rfl rfl rfl (by decide +kernel)) (
  mA (i := 1) (ok_ild_n (f := 1) (pc := 1) rfl rfl rfl (by decide +kernel)) (
  mA (i := 2) (ok_clt (off := 7) (pc := 2) (tgt := 9) rfl rfl rfl (by decide +kernel) (by decide +kernel)) (
  mA (i := 3) (ok_ild_n (f := 0) (pc := 5) rfl rfl rfl (by decide +kernel)) (
  mA (i := 4) (ok_goto (off := 4) (pc := 6) (tgt := 10) rfl rfl (by decide +kernel) (by decide +kernel)) (
  mA (i := 5) (ok_ild_n (f := 1) (pc := 9) rfl rfl rfl (by decide +kernel)) (
  mA (i := 6) (ok_iret (pc := 10) rfl rfl (by decide +kernel)) (
  mZ)))))))
set_option maxRecDepth 20000 in
theorem ok_Jm_min : mAll (mOk RJ9 cJ9_min_7cf53 2 true false (some .int) (mnat p_Jm_min)) 0 k_Jm_min := mA (i := 0) (ok_ild_n (f := 0) (pc := 0) rfl rfl rfl (by decide +kernel)) (
  mA (i := 1) (ok_ild_n (f := 1) (pc := 1) rfl rfl rfl (by decide +kernel)) (
  mA (i := 2) (ok_cgt (off := 7) (pc := 2) (tgt := 9) rfl rfl rfl (by decide +kernel) (by decide +kernel)) (
  mA (i := 3) (ok_ild_n (f := 0) (pc := 5) rfl rfl rfl (by decide +kernel)) (
  mA (i := 4) (ok_goto (off := 4) (pc := 6) (tgt := 10) rfl rfl (by decide +kernel) (by decide +kernel)) (
  mA (i := 5) (ok_ild_n (f := 1) (pc := 9) rfl rfl rfl (by decide +kernel)) (
  mA (i := 6) (ok_iret (pc := 10) rfl rfl (by decide +kernel)) (
  mZ)))))))
