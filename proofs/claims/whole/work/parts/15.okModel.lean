set_option maxRecDepth 20000 in
theorem ok_N_within : mAll (mOk RX10 cX10_within 6 false false (some .boolean) (mnat p_N_within)) 0 k_N_within := mA (i := 0) (ok_lld_n (f := 0) (pc := 0) rfl rfl rfl (by decide +kernel)) (
  mA (i := 1) (ok_lld_n (f := 2) (pc := 1) rfl rfl rfl (by decide +kernel)) (
  mA (i := 2) (ok_lcmp (pc := 2) rfl rfl (by decide +kernel)) (
  mA (i := 3) (ok_iflt (off := 14) (pc := 3) (tgt := 17) rfl rfl rfl (by decide +kernel) (by decide +kernel)) (
  mA (i := 4) (ok_lld_n (f := 0) (pc := 6) rfl rfl rfl (by decide +kernel)) (
  mA (i := 5) (ok_lld (pc := 7) rfl rfl (by decide +kernel)) (
  mA (i := 6) (ok_lcmp (pc := 9) rfl rfl (by decide +kernel)) (
  mA (i := 7) (ok_ifgt (off := 7) (pc := 10) (tgt := 17) rfl rfl rfl (by decide +kernel) (by decide +kernel)) (
  mA (i := 8) (ok_ic (n := 1) (pc := 13) (by decide +kernel) rfl rfl (by decide +kernel)) (
  mA (i := 9) (ok_goto (off := 4) (pc := 14) (tgt := 18) rfl rfl (by decide +kernel) (by decide +kernel)) (
  mA (i := 10) (ok_ic (n := 0) (pc := 17) (by decide +kernel) rfl rfl (by decide +kernel)) (
  mA (i := 11) (ok_zret (pc := 18) rfl rfl (by decide +kernel)) (
  mZ))))))))))))
set_option maxRecDepth 20000 in
theorem ok_N_init_t60 : mAll (mOk RX10 cX10_init 1 true true none (mnat p_N_init)) 60 [o_pP 11 34, o_ald 0, o_ic (nI 8), o_newa 21, o_pP 11 35, o_ald 0, o_ic (nI 24), o_newa 21, o_pP 11 36, o_ald 0, o_ic (nI 193), o_newa 21, o_pP 11 37, o_ald 0, o_ic (nI 193), o_newa 21, o_pP 11 38, o_ald 0, o_ic (nI 193), o_newa 21, o_pP 11 39, o_ald 0, o_ic (nI 193), o_newa 21, o_pP 11 40, o_ald 0, o_ic (nI 193), o_newa 21, o_pP 11 41, o_ald 0, o_ic (nI 24), o_newa 21, o_pP 11 42, o_ald 0, o_ic (nI 9), o_newa 21, o_pP 11 43, o_ald 0, o_ic (nI 193), o_newa 22, o_pP 11 44, o_ald 0, o_ic (nI 576), o_newa 22, o_pP 11 46, o_ald 0, o_ic (nI 24), o_newa 21, o_pP 11 47, o_ald 0, o_gP 11 1, o_ic (nI 768), o_ic (nI 1), o_iast, o_vret] := mA (i := 60) (ok_pPF (pc := 118) rfl (by decide +kernel) wd_590 inw_11 tyX10_ok nmX10 rfl rfl rfl (tyX10_ok 34 (by decide +kernel)) rfl rfl rfl (by decide +kernel)) (
  mA (i := 61) (ok_ald_n (f := 0) (pc := 121) rfl rfl rfl (by decide +kernel)) (
  mA (i := 62) (ok_bi (n := 8) (pc := 122) (by decide +kernel) rfl rfl (by decide +kernel)) (
  mA (i := 63) (ok_newi (pc := 124) wd_2 rfl rfl (by decide +kernel)) (
  mA (i := 64) (ok_pPF (pc := 126) rfl (by decide +kernel) wd_591 inw_11 tyX10_ok nmX10 rfl rfl rfl (tyX10_ok 35 (by decide +kernel)) rfl rfl rfl (by decide +kernel)) (
  mA (i := 65) (ok_ald_n (f := 0) (pc := 129) rfl rfl rfl (by decide +kernel)) (
  mA (i := 66) (ok_bi (n := 24) (pc := 130) (by decide +kernel) rfl rfl (by decide +kernel)) (
  mA (i := 67) (ok_newi (pc := 132) wd_2 rfl rfl (by decide +kernel)) (
  mA (i := 68) (ok_pPF (pc := 134) rfl (by decide +kernel) wd_592 inw_11 tyX10_ok nmX10 rfl rfl rfl (tyX10_ok 36 (by decide +kernel)) rfl rfl rfl (by decide +kernel)) (
  mA (i := 69) (ok_ald_n (f := 0) (pc := 137) rfl rfl rfl (by decide +kernel)) (
  mA (i := 70) (ok_si (n := 193) (pc := 138) (by decide +kernel) rfl rfl (by decide +kernel)) (
  mA (i := 71) (ok_newi (pc := 141) wd_2 rfl rfl (by decide +kernel)) (
  mA (i := 72) (ok_pPF (pc := 143) rfl (by decide +kernel) wd_593 inw_11 tyX10_ok nmX10 rfl rfl rfl (tyX10_ok 37 (by decide +kernel)) rfl rfl rfl (by decide +kernel)) (
  mA (i := 73) (ok_ald_n (f := 0) (pc := 146) rfl rfl rfl (by decide +kernel)) (
  mA (i := 74) (ok_si (n := 193) (pc := 147) (by decide +kernel) rfl rfl (by decide +kernel)) (
  mA (i := 75) (ok_newi (pc := 150) wd_2 rfl rfl (by decide +kernel)) (
  mA (i := 76) (ok_pPF (pc := 152) rfl (by decide +kernel) wd_594 inw_11 tyX10_ok nmX10 rfl rfl rfl (tyX10_ok 38 (by decide +kernel)) rfl rfl rfl (by decide +kernel)) (
  mA (i := 77) (ok_ald_n (f := 0) (pc := 155) rfl rfl rfl (by decide +kernel)) (
  mA (i := 78) (ok_si (n := 193) (pc := 156) (by decide +kernel) rfl rfl (by decide +kernel)) (
  mA (i := 79) (ok_newi (pc := 159) wd_2 rfl rfl (by decide +kernel)) (
  mA (i := 80) (ok_pPF (pc := 161) rfl (by decide +kernel) wd_595 inw_11 tyX10_ok nmX10 rfl rfl rfl (tyX10_ok 39 (by decide +kernel)) rfl rfl rfl (by decide +kernel)) (
  mA (i := 81) (ok_ald_n (f := 0) (pc := 164) rfl rfl rfl (by decide +kernel)) (
  mA (i := 82) (ok_si (n := 193) (pc := 165) (by decide +kernel) rfl rfl (by decide +kernel)) (
  mA (i := 83) (ok_newi (pc := 168) wd_2 rfl rfl (by decide +kernel)) (
  mA (i := 84) (ok_pPF (pc := 170) rfl (by decide +kernel) wd_596 inw_11 tyX10_ok nmX10 rfl rfl rfl (tyX10_ok 40 (by decide +kernel)) rfl rfl rfl (by decide +kernel)) (
  mA (i := 85) (ok_ald_n (f := 0) (pc := 173) rfl rfl rfl (by decide +kernel)) (
  mA (i := 86) (ok_si (n := 193) (pc := 174) (by decide +kernel) rfl rfl (by decide +kernel)) (
  mA (i := 87) (ok_newi (pc := 177) wd_2 rfl rfl (by decide +kernel)) (
  mA (i := 88) (ok_pPF (pc := 179) rfl (by decide +kernel) wd_597 inw_11 tyX10_ok nmX10 rfl rfl rfl (tyX10_ok 41 (by decide +kernel)) rfl rfl rfl (by decide +kernel)) (
  mA (i := 89) (ok_ald_n (f := 0) (pc := 182) rfl rfl rfl (by decide +kernel)) (
  mA (i := 90) (ok_bi (n := 24) (pc := 183) (by decide +kernel) rfl rfl (by decide +kernel)) (
  mA (i := 91) (ok_newi (pc := 185) wd_2 rfl rfl (by decide +kernel)) (
  mA (i := 92) (ok_pPF (pc := 187) rfl (by decide +kernel) wd_598 inw_11 tyX10_ok nmX10 rfl rfl rfl (tyX10_ok 42 (by decide +kernel)) rfl rfl rfl (by decide +kernel)) (
  mA (i := 93) (ok_ald_n (f := 0) (pc := 190) rfl rfl rfl (by decide +kernel)) (
  mA (i := 94) (ok_bi (n := 9) (pc := 191) (by decide +kernel) rfl rfl (by decide +kernel)) (
  mA (i := 95) (ok_newi (pc := 193) wd_2 rfl rfl (by decide +kernel)) (
  mA (i := 96) (ok_pPF (pc := 195) rfl (by decide +kernel) wd_599 inw_11 tyX10_ok nmX10 rfl rfl rfl (tyX10_ok 43 (by decide +kernel)) rfl rfl rfl (by decide +kernel)) (
  mA (i := 97) (ok_ald_n (f := 0) (pc := 198) rfl rfl rfl (by decide +kernel)) (
  mA (i := 98) (ok_si (n := 193) (pc := 199) (by decide +kernel) rfl rfl (by decide +kernel)) (
  mA (i := 99) (ok_newz (pc := 202) wd_577 rfl rfl (by decide +kernel)) (
  mA (i := 100) (ok_pPF (pc := 204) rfl (by decide +kernel) wd_600 inw_11 tyX10_ok nmX10 rfl rfl rfl (tyX10_ok 44 (by decide +kernel)) rfl rfl rfl (by decide +kernel)) (
  mA (i := 101) (ok_ald_n (f := 0) (pc := 207) rfl rfl rfl (by decide +kernel)) (
  mA (i := 102) (ok_si (n := 576) (pc := 208) (by decide +kernel) rfl rfl (by decide +kernel)) (
  mA (i := 103) (ok_newz (pc := 211) wd_577 rfl rfl (by decide +kernel)) (
  mA (i := 104) (ok_pPF (pc := 213) rfl (by decide +kernel) wd_601 inw_11 tyX10_ok nmX10 rfl rfl rfl (tyX10_ok 46 (by decide +kernel)) rfl rfl rfl (by decide +kernel)) (
  mA (i := 105) (ok_ald_n (f := 0) (pc := 216) rfl rfl rfl (by decide +kernel)) (
  mA (i := 106) (ok_bi (n := 24) (pc := 217) (by decide +kernel) rfl rfl (by decide +kernel)) (
  mA (i := 107) (ok_newi (pc := 219) wd_2 rfl rfl (by decide +kernel)) (
  mA (i := 108) (ok_pPF (pc := 221) rfl (by decide +kernel) wd_602 inw_11 tyX10_ok nmX10 rfl rfl rfl (tyX10_ok 47 (by decide +kernel)) rfl rfl rfl (by decide +kernel)) (
  mA (i := 109) (ok_ald_n (f := 0) (pc := 224) rfl rfl rfl (by decide +kernel)) (
  mA (i := 110) (ok_gP (pc := 225) rfl (by decide +kernel) wd_575 inw_11 rfl rfl (by decide +kernel)) (
  mA (i := 111) (ok_si (n := 768) (pc := 228) (by decide +kernel) rfl rfl (by decide +kernel)) (
  mA (i := 112) (ok_ic (n := 1) (pc := 231) (by decide +kernel) rfl rfl (by decide +kernel)) (
  mA (i := 113) (ok_iast (pc := 232) rfl rfl (by decide +kernel)) (
  mA (i := 114) (ok_vret (pc := 233) rfl rfl (by decide +kernel)) (
  mZ)))))))))))))))))))))))))))))))))))))))))))))))))))))))
set_option maxRecDepth 20000 in
theorem ok_N_init : mAll (mOk RX10 cX10_init 1 true true none (mnat p_N_init)) 0 k_N_init := mA (i := 0) (ok_ald_n (f := 0) (pc := 0) rfl rfl rfl (by decide +kernel)) (
  mA (i := 1) (ok_obj (pc := 1) wd_574 wd_1 wd_objc rfl rfl (by decide +kernel)) (
  mA (i := 2) (ok_ald_n (f := 0) (pc := 4) rfl rfl rfl (by decide +kernel)) (
  mA (i := 3) (ok_si (n := 2427) (pc := 5) (by decide +kernel) rfl rfl (by decide +kernel)) (
  mA (i := 4) (ok_newi (pc := 8) wd_2 rfl rfl (by decide +kernel)) (
  mA (i := 5) (ok_pPF (pc := 10) rfl (by decide +kernel) wd_575 inw_11 tyX10_ok nmX10 rfl rfl rfl (tyX10_ok 1 (by decide +kernel)) rfl rfl rfl (by decide +kernel)) (
  mA (i := 6) (ok_ald_n (f := 0) (pc := 13) rfl rfl rfl (by decide +kernel)) (
  mA (i := 7) (ok_si (n := 8090) (pc := 14) (by decide +kernel) rfl rfl (by decide +kernel)) (
  mA (i := 8) (ok_newi (pc := 17) wd_2 rfl rfl (by decide +kernel)) (
  mA (i := 9) (ok_pPF (pc := 19) rfl (by decide +kernel) wd_576 inw_11 tyX10_ok nmX10 rfl rfl rfl (tyX10_ok 2 (by decide +kernel)) rfl rfl rfl (by decide +kernel)) (
  mA (i := 10) (ok_ald_n (f := 0) (pc := 22) rfl rfl rfl (by decide +kernel)) (
  mA (i := 11) (ok_ic (n := 2) (pc := 23) (by decide +kernel) rfl rfl (by decide +kernel)) (
  mA (i := 12) (ok_newz (pc := 24) wd_577 rfl rfl (by decide +kernel)) (
  mA (i := 13) (ok_pPF (pc := 26) rfl (by decide +kernel) wd_578 inw_11 tyX10_ok nmX10 rfl rfl rfl (tyX10_ok 4 (by decide +kernel)) rfl rfl rfl (by decide +kernel)) (
  mA (i := 14) (ok_ald_n (f := 0) (pc := 29) rfl rfl rfl (by decide +kernel)) (
  mA (i := 15) (ok_bi (n := 100) (pc := 30) (by decide +kernel) rfl rfl (by decide +kernel)) (
  mA (i := 16) (ok_newi (pc := 32) wd_2 rfl rfl (by decide +kernel)) (
  mA (i := 17) (ok_pPF (pc := 34) rfl (by decide +kernel) wd_579 inw_11 tyX10_ok nmX10 rfl rfl rfl (tyX10_ok 5 (by decide +kernel)) rfl rfl rfl (by decide +kernel)) (
  mA (i := 18) (ok_ald_n (f := 0) (pc := 37) rfl rfl rfl (by decide +kernel)) (
  mA (i := 19) (ok_bi (n := 30) (pc := 38) (by decide +kernel) rfl rfl (by decide +kernel)) (
  mA (i := 20) (ok_newi (pc := 40) wd_2 rfl rfl (by decide +kernel)) (
  mA (i := 21) (ok_pPF (pc := 42) rfl (by decide +kernel) wd_580 inw_11 tyX10_ok nmX10 rfl rfl rfl (tyX10_ok 6 (by decide +kernel)) rfl rfl rfl (by decide +kernel)) (
  mA (i := 22) (ok_ald_n (f := 0) (pc := 45) rfl rfl rfl (by decide +kernel)) (
  mA (i := 23) (ok_ic (n := (-1)) (pc := 46) (by decide +kernel) rfl rfl (by decide +kernel)) (
  mA (i := 24) (ok_pI (pc := 47) rfl (by decide +kernel) wd_581 inw_11 tyX10_ok nmX10 rfl (by decide +kernel) rfl rfl (by decide +kernel)) (
  mA (i := 25) (ok_ald_n (f := 0) (pc := 50) rfl rfl rfl (by decide +kernel)) (
  mA (i := 26) (ok_bi (n := 30) (pc := 51) (by decide +kernel) rfl rfl (by decide +kernel)) (
  mA (i := 27) (ok_newi (pc := 53) wd_2 rfl rfl (by decide +kernel)) (
  mA (i := 28) (ok_pPF (pc := 55) rfl (by decide +kernel) wd_582 inw_11 tyX10_ok nmX10 rfl rfl rfl (tyX10_ok 16 (by decide +kernel)) rfl rfl rfl (by decide +kernel)) (
  mA (i := 29) (ok_ald_n (f := 0) (pc := 58) rfl rfl rfl (by decide +kernel)) (
  mA (i := 30) (ok_bi (n := 36) (pc := 59) (by decide +kernel) rfl rfl (by decide +kernel)) (
  mA (i := 31) (ok_newi (pc := 61) wd_2 rfl rfl (by decide +kernel)) (
  mA (i := 32) (ok_pPF (pc := 63) rfl (by decide +kernel) wd_583 inw_11 tyX10_ok nmX10 rfl rfl rfl (tyX10_ok 19 (by decide +kernel)) rfl rfl rfl (by decide +kernel)) (
  mA (i := 33) (ok_ald_n (f := 0) (pc := 66) rfl rfl rfl (by decide +kernel)) (
  mA (i := 34) (ok_ic (n := 5) (pc := 67) (by decide +kernel) rfl rfl (by decide +kernel)) (
  mA (i := 35) (ok_newi (pc := 68) wd_2 rfl rfl (by decide +kernel)) (
  mA (i := 36) (ok_pPF (pc := 70) rfl (by decide +kernel) wd_584 inw_11 tyX10_ok nmX10 rfl rfl rfl (tyX10_ok 20 (by decide +kernel)) rfl rfl rfl (by decide +kernel)) (
  mA (i := 37) (ok_ald_n (f := 0) (pc := 73) rfl rfl rfl (by decide +kernel)) (
  mA (i := 38) (ok_ic (n := 5) (pc := 74) (by decide +kernel) rfl rfl (by decide +kernel)) (
  mA (i := 39) (ok_newi (pc := 75) wd_2 rfl rfl (by decide +kernel)) (
  mA (i := 40) (ok_pPF (pc := 77) rfl (by decide +kernel) wd_585 inw_11 tyX10_ok nmX10 rfl rfl rfl (tyX10_ok 21 (by decide +kernel)) rfl rfl rfl (by decide +kernel)) (
  mA (i := 41) (ok_ald_n (f := 0) (pc := 80) rfl rfl rfl (by decide +kernel)) (
  mA (i := 42) (ok_bi (n := 6) (pc := 81) (by decide +kernel) rfl rfl (by decide +kernel)) (
  mA (i := 43) (ok_newi (pc := 83) wd_2 rfl rfl (by decide +kernel)) (
  mA (i := 44) (ok_pPF (pc := 85) rfl (by decide +kernel) wd_586 inw_11 tyX10_ok nmX10 rfl rfl rfl (tyX10_ok 22 (by decide +kernel)) rfl rfl rfl (by decide +kernel)) (
  mA (i := 45) (ok_ald_n (f := 0) (pc := 88) rfl rfl rfl (by decide +kernel)) (
  mA (i := 46) (ok_bi (n := 30) (pc := 89) (by decide +kernel) rfl rfl (by decide +kernel)) (
  mA (i := 47) (ok_newi (pc := 91) wd_2 rfl rfl (by decide +kernel)) (
  mA (i := 48) (ok_pPF (pc := 93) rfl (by decide +kernel) wd_587 inw_11 tyX10_ok nmX10 rfl rfl rfl (tyX10_ok 31 (by decide +kernel)) rfl rfl rfl (by decide +kernel)) (
  mA (i := 49) (ok_ald_n (f := 0) (pc := 96) rfl rfl rfl (by decide +kernel)) (
  mA (i := 50) (ok_bi (n := 30) (pc := 97) (by decide +kernel) rfl rfl (by decide +kernel)) (
  mA (i := 51) (ok_newi (pc := 99) wd_2 rfl rfl (by decide +kernel)) (
  mA (i := 52) (ok_pPF (pc := 101) rfl (by decide +kernel) wd_588 inw_11 tyX10_ok nmX10 rfl rfl rfl (tyX10_ok 32 (by decide +kernel)) rfl rfl rfl (by decide +kernel)) (
  mA (i := 53) (ok_ald_n (f := 0) (pc := 104) rfl rfl rfl (by decide +kernel)) (
  mA (i := 54) (ok_si (n := 1000) (pc := 105) (by decide +kernel) rfl rfl (by decide +kernel)) (
  mA (i := 55) (ok_newi (pc := 108) wd_2 rfl rfl (by decide +kernel)) (
  mA (i := 56) (ok_pPF (pc := 110) rfl (by decide +kernel) wd_589 inw_11 tyX10_ok nmX10 rfl rfl rfl (tyX10_ok 33 (by decide +kernel)) rfl rfl rfl (by decide +kernel)) (
  mA (i := 57) (ok_ald_n (f := 0) (pc := 113) rfl rfl rfl (by decide +kernel)) (
  mA (i := 58) (ok_bi (n := 40) (pc := 114) (by decide +kernel) rfl rfl (by decide +kernel)) (
  mA (i := 59) (ok_newi (pc := 116) wd_2 rfl rfl (by decide +kernel)) (
  ok_N_init_t60))))))))))))))))))))))))))))))))))))))))))))))))))))))))))))
set_option maxRecDepth 20000 in
theorem ok_N_isClause : mAll (mOk RX10 cX10_isClause 2 true false (some .boolean) (mnat p_N_isClause)) 0 k_N_isClause := mA (i := 0) (ok_ild_n (f := 1) (pc := 0) rfl rfl rfl (by decide +kernel)) (
  mA (i := 1) (ok_i2l (pc := 1) rfl rfl (by decide +kernel)) (
  mA (i := 2) (ok_lc (n := 0) (pc := 2) (by decide +kernel) rfl rfl (by decide +kernel)) (
  mA (i := 3) (ok_ldc2 (pc := 3) wd_603 rfl rfl (by decide +kernel)) (
  mA (i := 4) (ok_callI (pc := 6) (can_S cal_N_within (by decide +kernel) wd_606 wd_604 wd_605 (by decide +kernel)) rfl rfl) (
  mA (i := 5) (ok_ifeq (off := 22) (pc := 9) (tgt := 31) rfl rfl rfl (by decide +kernel) (by decide +kernel)) (
  mA (i := 6) (ok_ald_n (f := 0) (pc := 12) rfl rfl rfl (by decide +kernel)) (
  mA (i := 7) (ok_gP (pc := 13) rfl (by decide +kernel) wd_575 inw_11 rfl rfl (by decide +kernel)) (
  mA (i := 8) (ok_bi (n := 32) (pc := 16) (by decide +kernel) rfl rfl (by decide +kernel)) (
  mA (i := 9) (ok_ild_n (f := 1) (pc := 18) rfl rfl rfl (by decide +kernel)) (
  mA (i := 10) (ok_mul (pc := 19) rfl rfl (by decide +kernel)) (
  mA (i := 11) (ok_ic (n := 0) (pc := 20) (by decide +kernel) rfl rfl (by decide +kernel)) (
  mA (i := 12) (ok_add (pc := 21) rfl rfl (by decide +kernel)) (
  mA (i := 13) (ok_iald (pc := 22) rfl rfl (by decide +kernel)) (
  mA (i := 14) (ok_ic (n := 1) (pc := 23) (by decide +kernel) rfl rfl (by decide +kernel)) (
  mA (i := 15) (ok_cne (off := 7) (pc := 24) (tgt := 31) rfl rfl rfl (by decide +kernel) (by decide +kernel)) (
  mA (i := 16) (ok_ic (n := 1) (pc := 27) (by decide +kernel) rfl rfl (by decide +kernel)) (
  mA (i := 17) (ok_goto (off := 4) (pc := 28) (tgt := 32) rfl rfl (by decide +kernel) (by decide +kernel)) (
  mA (i := 18) (ok_ic (n := 0) (pc := 31) (by decide +kernel) rfl rfl (by decide +kernel)) (
  mA (i := 19) (ok_zret (pc := 32) rfl rfl (by decide +kernel)) (
  mZ))))))))))))))))))))
set_option maxRecDepth 20000 in
theorem ok_N_isKept : mAll (mOk RX10 cX10_isKept 2 true false (some .boolean) (mnat p_N_isKept)) 0 k_N_isKept := mA (i := 0) (ok_ild_n (f := 1) (pc := 0) rfl rfl rfl (by decide +kernel)) (
  mA (i := 1) (ok_bi (n := 24) (pc := 1) (by decide +kernel) rfl rfl (by decide +kernel)) (
  mA (i := 2) (ok_ceq (off := 15) (pc := 3) (tgt := 18) rfl rfl rfl (by decide +kernel) (by decide +kernel)) (
  mA (i := 3) (ok_ald_n (f := 0) (pc := 6) rfl rfl rfl (by decide +kernel)) (
  mA (i := 4) (ok_ild_n (f := 1) (pc := 7) rfl rfl rfl (by decide +kernel)) (
  mA (i := 5) (ok_callI (pc := 8) (can_V cal_N_isClause (by decide +kernel) rfl (by decide +kernel) rfl wd_607 wd_608 wd_609 wd_605 (by decide +kernel)) rfl rfl) (
  mA (i := 6) (ok_ifeq (off := 7) (pc := 11) (tgt := 18) rfl rfl rfl (by decide +kernel) (by decide +kernel)) (
  mA (i := 7) (ok_ic (n := 1) (pc := 14) (by decide +kernel) rfl rfl (by decide +kernel)) (
  mA (i := 8) (ok_goto (off := 4) (pc := 15) (tgt := 19) rfl rfl (by decide +kernel) (by decide +kernel)) (
  mA (i := 9) (ok_ic (n := 0) (pc := 18) (by decide +kernel) rfl rfl (by decide +kernel)) (
  mA (i := 10) (ok_zret (pc := 19) rfl rfl (by decide +kernel)) (
  mZ)))))))))))
set_option maxRecDepth 20000 in
theorem ok_N_longOf : mAll (mOk RX10 cX10_longOf 2 true false (some .int) (mnat p_N_longOf)) 0 k_N_longOf := mA (i := 0) (ok_ald_n (f := 0) (pc := 0) rfl rfl rfl (by decide +kernel)) (
  mA (i := 1) (ok_gP (pc := 1) rfl (by decide +kernel) wd_575 inw_11 rfl rfl (by decide +kernel)) (
  mA (i := 2) (ok_bi (n := 32) (pc := 4) (by decide +kernel) rfl rfl (by decide +kernel)) (
  mA (i := 3) (ok_ild_n (f := 1) (pc := 6) rfl rfl rfl (by decide +kernel)) (
  mA (i := 4) (ok_mul (pc := 7) rfl rfl (by decide +kernel)) (
  mA (i := 5) (ok_ic (n := 1) (pc := 8) (by decide +kernel) rfl rfl (by decide +kernel)) (
  mA (i := 6) (ok_add (pc := 9) rfl rfl (by decide +kernel)) (
  mA (i := 7) (ok_iald (pc := 10) rfl rfl (by decide +kernel)) (
  mA (i := 8) (ok_iret (pc := 11) rfl rfl (by decide +kernel)) (
  mZ)))))))))
set_option maxRecDepth 20000 in
theorem ok_N_codeAt : mAll (mOk RX10 cX10_codeAt 3 true false (some .int) (mnat p_N_codeAt)) 0 k_N_codeAt := mA (i := 0) (ok_ald_n (f := 0) (pc := 0) rfl rfl rfl (by decide +kernel)) (
  mA (i := 1) (ok_gP (pc := 1) rfl (by decide +kernel) wd_575 inw_11 rfl rfl (by decide +kernel)) (
  mA (i := 2) (ok_bi (n := 32) (pc := 4) (by decide +kernel) rfl rfl (by decide +kernel)) (
  mA (i := 3) (ok_ild_n (f := 1) (pc := 6) rfl rfl rfl (by decide +kernel)) (
  mA (i := 4) (ok_mul (pc := 7) rfl rfl (by decide +kernel)) (
  mA (i := 5) (ok_ic (n := 2) (pc := 8) (by decide +kernel) rfl rfl (by decide +kernel)) (
  mA (i := 6) (ok_add (pc := 9) rfl rfl (by decide +kernel)) (
  mA (i := 7) (ok_ild_n (f := 2) (pc := 10) rfl rfl rfl (by decide +kernel)) (
  mA (i := 8) (ok_add (pc := 11) rfl rfl (by decide +kernel)) (
  mA (i := 9) (ok_iald (pc := 12) rfl rfl (by decide +kernel)) (
  mA (i := 10) (ok_iret (pc := 13) rfl rfl (by decide +kernel)) (
  mZ)))))))))))
set_option maxRecDepth 20000 in
theorem ok_N_keptMany : mAll (mOk RX10 cX10_keptMany 3 true false (some .int) (mnat p_N_keptMany)) 0 k_N_keptMany := mA (i := 0) (ok_ic (n := 0) (pc := 0) (by decide +kernel) rfl rfl (by decide +kernel)) (
  mA (i := 1) (ok_ist_n (f := 1) (pc := 1) rfl (by decide +kernel) rfl rfl rfl (by decide +kernel)) (
  mA (i := 2) (ok_ic (n := 0) (pc := 2) (by decide +kernel) rfl rfl (by decide +kernel)) (
  mA (i := 3) (ok_ist_n (f := 2) (pc := 3) rfl (by decide +kernel) rfl rfl rfl (by decide +kernel)) (
  mA (i := 4) (ok_ild_n (f := 2) (pc := 4) rfl rfl rfl (by decide +kernel)) (
  mA (i := 5) (ok_bi (n := 24) (pc := 5) (by decide +kernel) rfl rfl (by decide +kernel)) (
  mA (i := 6) (ok_cge (off := 23) (pc := 7) (tgt := 30) rfl rfl rfl (by decide +kernel) (by decide +kernel)) (
  mA (i := 7) (ok_ild_n (f := 1) (pc := 10) rfl rfl rfl (by decide +kernel)) (
  mA (i := 8) (ok_ald_n (f := 0) (pc := 11) rfl rfl rfl (by decide +kernel)) (
  mA (i := 9) (ok_gP (pc := 12) rfl (by decide +kernel) wd_575 inw_11 rfl rfl (by decide +kernel)) (
  mA (i := 10) (ok_bi (n := 32) (pc := 15) (by decide +kernel) rfl rfl (by decide +kernel)) (
  mA (i := 11) (ok_ild_n (f := 2) (pc := 17) rfl rfl rfl (by decide +kernel)) (
  mA (i := 12) (ok_mul (pc := 18) rfl rfl (by decide +kernel)) (
  mA (i := 13) (ok_ic (n := 0) (pc := 19) (by decide +kernel) rfl rfl (by decide +kernel)) (
  mA (i := 14) (ok_add (pc := 20) rfl rfl (by decide +kernel)) (
  mA (i := 15) (ok_iald (pc := 21) rfl rfl (by decide +kernel)) (
  mA (i := 16) (ok_add (pc := 22) rfl rfl (by decide +kernel)) (
  mA (i := 17) (ok_ist_n (f := 1) (pc := 23) rfl (by decide +kernel) rfl rfl rfl (by decide +kernel)) (
  mA (i := 18) (ok_inc (z := 1) (pc := 24) (by decide +kernel) (by decide +kernel) rfl rfl rfl (by decide +kernel)) (
  mA (i := 19) (ok_goto (off := (-23)) (pc := 27) (tgt := 4) rfl rfl (by decide +kernel) (by decide +kernel)) (
  mA (i := 20) (ok_ild_n (f := 1) (pc := 30) rfl rfl rfl (by decide +kernel)) (
  mA (i := 21) (ok_iret (pc := 31) rfl rfl (by decide +kernel)) (
  mZ))))))))))))))))))))))
set_option maxRecDepth 20000 in
theorem ok_N_partsOf : mAll (mOk RX10 cX10_partsOf 1 true false (some .int) (mnat p_N_partsOf)) 0 k_N_partsOf := mA (i := 0) (ok_ild_n (f := 0) (pc := 0) rfl rfl rfl (by decide +kernel)) (
  mA (i := 1) (ok_bi (n := 100) (pc := 1) (by decide +kernel) rfl rfl (by decide +kernel)) (
  mA (i := 2) (ok_clt (off := 33) (pc := 3) (tgt := 36) rfl rfl rfl (by decide +kernel) (by decide +kernel)) (
  mA (i := 3) (ok_ild_n (f := 0) (pc := 6) rfl rfl rfl (by decide +kernel)) (
  mA (i := 4) (ok_bi (n := 100) (pc := 7) (by decide +kernel) rfl rfl (by decide +kernel)) (
  mA (i := 5) (ok_sub (pc := 9) rfl rfl (by decide +kernel)) (
  mA (i := 6) (ok_ic (n := 2) (pc := 10) (by decide +kernel) rfl rfl (by decide +kernel)) (
  mA (i := 7) (ok_div (pc := 11) rfl rfl (by decide +kernel)) (
  mA (i := 8) (ok_ic (n := 1) (pc := 12) (by decide +kernel) rfl rfl (by decide +kernel)) (
  mA (i := 9) (ok_cne (off := 7) (pc := 13) (tgt := 20) rfl rfl rfl (by decide +kernel) (by decide +kernel)) (
  mA (i := 10) (ok_ic (n := 2) (pc := 16) (by decide +kernel) rfl rfl (by decide +kernel)) (
  mA (i := 11) (ok_goto (off := 18) (pc := 17) (tgt := 35) rfl rfl (by decide +kernel) (by decide +kernel)) (
  mA (i := 12) (ok_ild_n (f := 0) (pc := 20) rfl rfl rfl (by decide +kernel)) (
  mA (i := 13) (ok_bi (n := 100) (pc := 21) (by decide +kernel) rfl rfl (by decide +kernel)) (
  mA (i := 14) (ok_sub (pc := 23) rfl rfl (by decide +kernel)) (
  mA (i := 15) (ok_ic (n := 2) (pc := 24) (by decide +kernel) rfl rfl (by decide +kernel)) (
  mA (i := 16) (ok_div (pc := 25) rfl rfl (by decide +kernel)) (
  mA (i := 17) (ok_ic (n := 2) (pc := 26) (by decide +kernel) rfl rfl (by decide +kernel)) (
  mA (i := 18) (ok_cne (off := 7) (pc := 27) (tgt := 34) rfl rfl rfl (by decide +kernel) (by decide +kernel)) (
  mA (i := 19) (ok_ic (n := 0) (pc := 30) (by decide +kernel) rfl rfl (by decide +kernel)) (
  mA (i := 20) (ok_goto (off := 4) (pc := 31) (tgt := 35) rfl rfl (by decide +kernel) (by decide +kernel)) (
  mA (i := 21) (ok_ic (n := 1) (pc := 34) (by decide +kernel) rfl rfl (by decide +kernel)) (
  mA (i := 22) (ok_iret (pc := 35) rfl rfl (by decide +kernel)) (
  mA (i := 23) (ok_ild_n (f := 0) (pc := 36) rfl rfl rfl (by decide +kernel)) (
  mA (i := 24) (ok_ic (n := 2) (pc := 37) (by decide +kernel) rfl rfl (by decide +kernel)) (
  mA (i := 25) (ok_cne (off := 7) (pc := 38) (tgt := 45) rfl rfl rfl (by decide +kernel) (by decide +kernel)) (
  mA (i := 26) (ok_ic (n := 2) (pc := 41) (by decide +kernel) rfl rfl (by decide +kernel)) (
  mA (i := 27) (ok_goto (off := 17) (pc := 42) (tgt := 59) rfl rfl (by decide +kernel) (by decide +kernel)) (
  mA (i := 28) (ok_ild_n (f := 0) (pc := 45) rfl rfl rfl (by decide +kernel)) (
  mA (i := 29) (ok_ifeq (off := 8) (pc := 46) (tgt := 54) rfl rfl rfl (by decide +kernel) (by decide +kernel)) (
  mA (i := 30) (ok_ild_n (f := 0) (pc := 49) rfl rfl rfl (by decide +kernel)) (
  mA (i := 31) (ok_ic (n := 1) (pc := 50) (by decide +kernel) rfl rfl (by decide +kernel)) (
  mA (i := 32) (ok_cne (off := 7) (pc := 51) (tgt := 58) rfl rfl rfl (by decide +kernel) (by decide +kernel)) (
  mA (i := 33) (ok_ic (n := 1) (pc := 54) (by decide +kernel) rfl rfl (by decide +kernel)) (
  mA (i := 34) (ok_goto (off := 4) (pc := 55) (tgt := 59) rfl rfl (by decide +kernel) (by decide +kernel)) (
  mA (i := 35) (ok_ic (n := 0) (pc := 58) (by decide +kernel) rfl rfl (by decide +kernel)) (
  mA (i := 36) (ok_iret (pc := 59) rfl rfl (by decide +kernel)) (
  mZ)))))))))))))))))))))))))))))))))))))
set_option maxRecDepth 20000 in
theorem ok_N_pastOf : mAll (mOk RX10 cX10_pastOf 5 true false (some .int) (mnat p_N_pastOf)) 0 k_N_pastOf := mA (i := 0) (ok_ic (n := 1) (pc := 0) (by decide +kernel) rfl rfl (by decide +kernel)) (
  mA (i := 1) (ok_ist_n (f := 3) (pc := 1) rfl (by decide +kernel) rfl rfl rfl (by decide +kernel)) (
  mA (i := 2) (ok_ild_n (f := 2) (pc := 2) rfl rfl rfl (by decide +kernel)) (
  mA (i := 3) (ok_ist (pc := 3) (by decide +kernel) rfl rfl rfl (by decide +kernel)) (
  mA (i := 4) (ok_ild_n (f := 3) (pc := 5) rfl rfl rfl (by decide +kernel)) (
  mA (i := 5) (ok_ifle (off := 24) (pc := 6) (tgt := 30) rfl rfl rfl (by decide +kernel) (by decide +kernel)) (
  mA (i := 6) (ok_ild_n (f := 3) (pc := 9) rfl rfl rfl (by decide +kernel)) (
  mA (i := 7) (ok_ald_n (f := 0) (pc := 10) rfl rfl rfl (by decide +kernel)) (
  mA (i := 8) (ok_ild_n (f := 1) (pc := 11) rfl rfl rfl (by decide +kernel)) (
  mA (i := 9) (ok_ild (pc := 12) rfl rfl (by decide +kernel)) (
  mA (i := 10) (ok_callI (pc := 14) (can_V cal_N_codeAt (by decide +kernel) rfl (by decide +kernel) rfl wd_610 wd_611 wd_612 wd_605 (by decide +kernel)) rfl rfl) (
  mA (i := 11) (ok_callI (pc := 17) (can_S cal_N_partsOf (by decide +kernel) wd_614 wd_613 wd_605 (by decide +kernel)) rfl rfl) (
  mA (i := 12) (ok_ic (n := 1) (pc := 20) (by decide +kernel) rfl rfl (by decide +kernel)) (
  mA (i := 13) (ok_sub (pc := 21) rfl rfl (by decide +kernel)) (
  mA (i := 14) (ok_add (pc := 22) rfl rfl (by decide +kernel)) (
  mA (i := 15) (ok_ist_n (f := 3) (pc := 23) rfl (by decide +kernel) rfl rfl rfl (by decide +kernel)) (
  mA (i := 16) (ok_inc (z := 1) (pc := 24) (by decide +kernel) (by decide +kernel) rfl rfl rfl (by decide +kernel)) (
  mA (i := 17) (ok_goto (off := (-22)) (pc := 27) (tgt := 5) rfl rfl (by decide +kernel) (by decide +kernel)) (
  mA (i := 18) (ok_ild (pc := 30) rfl rfl (by decide +kernel)) (
  mA (i := 19) (ok_iret (pc := 32) rfl rfl (by decide +kernel)) (
  mZ))))))))))))))))))))
set_option maxRecDepth 20000 in
theorem ok_N_literalMany : mAll (mOk RX10 cX10_literalMany 4 true false (some .int) (mnat p_N_literalMany)) 0 k_N_literalMany := mA (i := 0) (ok_ic (n := 0) (pc := 0) (by decide +kernel) rfl rfl (by decide +kernel)) (
  mA (i := 1) (ok_ist_n (f := 2) (pc := 1) rfl (by decide +kernel) rfl rfl rfl (by decide +kernel)) (
  mA (i := 2) (ok_ic (n := 0) (pc := 2) (by decide +kernel) rfl rfl (by decide +kernel)) (
  mA (i := 3) (ok_ist_n (f := 3) (pc := 3) rfl (by decide +kernel) rfl rfl rfl (by decide +kernel)) (
  mA (i := 4) (ok_ild_n (f := 3) (pc := 4) rfl rfl rfl (by decide +kernel)) (
  mA (i := 5) (ok_ald_n (f := 0) (pc := 5) rfl rfl rfl (by decide +kernel)) (
  mA (i := 6) (ok_ild_n (f := 1) (pc := 6) rfl rfl rfl (by decide +kernel)) (
  mA (i := 7) (ok_callI (pc := 7) (can_V cal_N_longOf (by decide +kernel) rfl (by decide +kernel) rfl wd_615 wd_616 wd_617 wd_605 (by decide +kernel)) rfl rfl) (
  mA (i := 8) (ok_cge (off := 28) (pc := 10) (tgt := 38) rfl rfl rfl (by decide +kernel) (by decide +kernel)) (
  mA (i := 9) (ok_ild_n (f := 2) (pc := 13) rfl rfl rfl (by decide +kernel)) (
  mA (i := 10) (ok_ald_n (f := 0) (pc := 14) rfl rfl rfl (by decide +kernel)) (
  mA (i := 11) (ok_ild_n (f := 1) (pc := 15) rfl rfl rfl (by decide +kernel)) (
  mA (i := 12) (ok_ild_n (f := 3) (pc := 16) rfl rfl rfl (by decide +kernel)) (
  mA (i := 13) (ok_callI (pc := 17) (can_V cal_N_codeAt (by decide +kernel) rfl (by decide +kernel) rfl wd_610 wd_611 wd_612 wd_605 (by decide +kernel)) rfl rfl) (
  mA (i := 14) (ok_bi (n := 100) (pc := 20) (by decide +kernel) rfl rfl (by decide +kernel)) (
  mA (i := 15) (ok_clt (off := 7) (pc := 22) (tgt := 29) rfl rfl rfl (by decide +kernel) (by decide +kernel)) (
  mA (i := 16) (ok_ic (n := 1) (pc := 25) (by decide +kernel) rfl rfl (by decide +kernel)) (
  mA (i := 17) (ok_goto (off := 4) (pc := 26) (tgt := 30) rfl rfl (by decide +kernel) (by decide +kernel)) (
  mA (i := 18) (ok_ic (n := 0) (pc := 29) (by decide +kernel) rfl rfl (by decide +kernel)) (
  mA (i := 19) (ok_add (pc := 30) rfl rfl (by decide +kernel)) (
  mA (i := 20) (ok_ist_n (f := 2) (pc := 31) rfl (by decide +kernel) rfl rfl rfl (by decide +kernel)) (
  mA (i := 21) (ok_inc (z := 1) (pc := 32) (by decide +kernel) (by decide +kernel) rfl rfl rfl (by decide +kernel)) (
  mA (i := 22) (ok_goto (off := (-31)) (pc := 35) (tgt := 4) rfl rfl (by decide +kernel) (by decide +kernel)) (
  mA (i := 23) (ok_ild_n (f := 2) (pc := 38) rfl rfl rfl (by decide +kernel)) (
  mA (i := 24) (ok_iret (pc := 39) rfl rfl (by decide +kernel)) (
  mZ)))))))))))))))))))))))))
set_option maxRecDepth 20000 in
theorem ok_N_beginOf : mAll (mOk RX10 cX10_beginOf 5 true false (some .int) (mnat p_N_beginOf)) 0 k_N_beginOf := mA (i := 0) (ok_ic (n := 0) (pc := 0) (by decide +kernel) rfl rfl (by decide +kernel)) (
  mA (i := 1) (ok_ist_n (f := 3) (pc := 1) rfl (by decide +kernel) rfl rfl rfl (by decide +kernel)) (
  mA (i := 2) (ok_ic (n := 0) (pc := 2) (by decide +kernel) rfl rfl (by decide +kernel)) (
  mA (i := 3) (ok_ist (pc := 3) (by decide +kernel) rfl rfl rfl (by decide +kernel)) (
  mA (i := 4) (ok_ild (pc := 5) rfl rfl (by decide +kernel)) (
  mA (i := 5) (ok_ald_n (f := 0) (pc := 7) rfl rfl rfl (by decide +kernel)) (
  mA (i := 6) (ok_ild_n (f := 1) (pc := 8) rfl rfl rfl (by decide +kernel)) (
  mA (i := 7) (ok_callI (pc := 9) (can_V cal_N_longOf (by decide +kernel) rfl (by decide +kernel) rfl wd_615 wd_616 wd_617 wd_605 (by decide +kernel)) rfl rfl) (
  mA (i := 8) (ok_cge (off := 35) (pc := 12) (tgt := 47) rfl rfl rfl (by decide +kernel) (by decide +kernel)) (
  mA (i := 9) (ok_ald_n (f := 0) (pc := 15) rfl rfl rfl (by decide +kernel)) (
  mA (i := 10) (ok_ild_n (f := 1) (pc := 16) rfl rfl rfl (by decide +kernel)) (
  mA (i := 11) (ok_ild (pc := 17) rfl rfl (by decide +kernel)) (
  mA (i := 12) (ok_callI (pc := 19) (can_V cal_N_codeAt (by decide +kernel) rfl (by decide +kernel) rfl wd_610 wd_611 wd_612 wd_605 (by decide +kernel)) rfl rfl) (
  mA (i := 13) (ok_bi (n := 100) (pc := 22) (by decide +kernel) rfl rfl (by decide +kernel)) (
  mA (i := 14) (ok_cge (off := 6) (pc := 24) (tgt := 30) rfl rfl rfl (by decide +kernel) (by decide +kernel)) (
  mA (i := 15) (ok_goto (off := 14) (pc := 27) (tgt := 41) rfl rfl (by decide +kernel) (by decide +kernel)) (
  mA (i := 16) (ok_ild_n (f := 3) (pc := 30) rfl rfl rfl (by decide +kernel)) (
  mA (i := 17) (ok_ild_n (f := 2) (pc := 31) rfl rfl rfl (by decide +kernel)) (
  mA (i := 18) (ok_cne (off := 6) (pc := 32) (tgt := 38) rfl rfl rfl (by decide +kernel) (by decide +kernel)) (
  mA (i := 19) (ok_ild (pc := 35) rfl rfl (by decide +kernel)) (
  mA (i := 20) (ok_iret (pc := 37) rfl rfl (by decide +kernel)) (
  mA (i := 21) (ok_inc (z := 1) (pc := 38) (by decide +kernel) (by decide +kernel) rfl rfl rfl (by decide +kernel)) (
  mA (i := 22) (ok_inc (z := 1) (pc := 41) (by decide +kernel) (by decide +kernel) rfl rfl rfl (by decide +kernel)) (
  mA (i := 23) (ok_goto (off := (-39)) (pc := 44) (tgt := 5) rfl rfl (by decide +kernel) (by decide +kernel)) (
  mA (i := 24) (ok_ald_n (f := 0) (pc := 47) rfl rfl rfl (by decide +kernel)) (
  mA (i := 25) (ok_ild_n (f := 1) (pc := 48) rfl rfl rfl (by decide +kernel)) (
  mA (i := 26) (ok_callI (pc := 49) (can_V cal_N_longOf (by decide +kernel) rfl (by decide +kernel) rfl wd_615 wd_616 wd_617 wd_605 (by decide +kernel)) rfl rfl) (
  mA (i := 27) (ok_iret (pc := 52) rfl rfl (by decide +kernel)) (
  mZ))))))))))))))))))))))))))))
set_option maxRecDepth 20000 in
theorem ok_N_feed_t60 : mAll (mOk RX10 cX10_feed 8 true false (some .int) (mnat p_N_feed)) 60 [o_inc 6 (nI 1), o_goto 13, o_ald 0, o_gI 11 7, o_iret] := mA (i := 60) (ok_inc (z := 1) (pc := 114) (by decide +kernel) (by decide +kernel) rfl rfl rfl (by decide +kernel)) (
  mA (i := 61) (ok_goto (off := (-94)) (pc := 117) (tgt := 23) rfl rfl (by decide +kernel) (by decide +kernel)) (
  mA (i := 62) (ok_ald_n (f := 0) (pc := 120) rfl rfl rfl (by decide +kernel)) (
  mA (i := 63) (ok_gI (pc := 121) rfl (by decide +kernel) wd_619 inw_11 rfl rfl (by decide +kernel)) (
  mA (i := 64) (ok_iret (pc := 124) rfl rfl (by decide +kernel)) (
  mZ)))))
set_option maxRecDepth 20000 in
theorem ok_N_feed : mAll (mOk RX10 cX10_feed 8 true false (some .int) (mnat p_N_feed)) 0 k_N_feed := mA (i := 0) (ok_ald_n (f := 0) (pc := 0) rfl rfl rfl (by decide +kernel)) (
  mA (i := 1) (ok_ic (n := 0) (pc := 1) (by decide +kernel) rfl rfl (by decide +kernel)) (
  mA (i := 2) (ok_pI (pc := 2) rfl (by decide +kernel) wd_618 inw_11 tyX10_ok nmX10 rfl (by decide +kernel) rfl rfl (by decide +kernel)) (
  mA (i := 3) (ok_ald_n (f := 0) (pc := 5) rfl rfl rfl (by decide +kernel)) (
  mA (i := 4) (ok_gI (pc := 6) rfl (by decide +kernel) wd_619 inw_11 rfl rfl (by decide +kernel)) (
  mA (i := 5) (ok_bi (n := 20) (pc := 9) (by decide +kernel) rfl rfl (by decide +kernel)) (
  mA (i := 6) (ok_add (pc := 11) rfl rfl (by decide +kernel)) (
  mA (i := 7) (ok_bi (n := 100) (pc := 12) (by decide +kernel) rfl rfl (by decide +kernel)) (
  mA (i := 8) (ok_cle (off := 6) (pc := 14) (tgt := 20) rfl rfl rfl (by decide +kernel) (by decide +kernel)) (
  mA (i := 9) (ok_bi (n := (-4)) (pc := 17) (by decide +kernel) rfl rfl (by decide +kernel)) (
  mA (i := 10) (ok_iret (pc := 19) rfl rfl (by decide +kernel)) (
  mA (i := 11) (ok_ic (n := 0) (pc := 20) (by decide +kernel) rfl rfl (by decide +kernel)) (
  mA (i := 12) (ok_ist (pc := 21) (by decide +kernel) rfl rfl rfl (by decide +kernel)) (
  mA (i := 13) (ok_ild (pc := 23) rfl rfl (by decide +kernel)) (
  mA (i := 14) (ok_bi (n := 20) (pc := 25) (by decide +kernel) rfl rfl (by decide +kernel)) (
  mA (i := 15) (ok_cge (off := 93) (pc := 27) (tgt := 120) rfl rfl rfl (by decide +kernel) (by decide +kernel)) (
  mA (i := 16) (ok_ild (pc := 30) rfl rfl (by decide +kernel)) (
  mA (i := 17) (ok_ic (n := 4) (pc := 32) (by decide +kernel) rfl rfl (by decide +kernel)) (
  mA (i := 18) (ok_cge (off := 7) (pc := 33) (tgt := 40) rfl rfl rfl (by decide +kernel) (by decide +kernel)) (
  mA (i := 19) (ok_ild_n (f := 1) (pc := 36) rfl rfl rfl (by decide +kernel)) (
  mA (i := 20) (ok_goto (off := 39) (pc := 37) (tgt := 76) rfl rfl (by decide +kernel) (by decide +kernel)) (
  mA (i := 21) (ok_ild (pc := 40) rfl rfl (by decide +kernel)) (
  mA (i := 22) (ok_bi (n := 8) (pc := 42) (by decide +kernel) rfl rfl (by decide +kernel)) (
  mA (i := 23) (ok_cge (off := 7) (pc := 44) (tgt := 51) rfl rfl rfl (by decide +kernel) (by decide +kernel)) (
  mA (i := 24) (ok_ild_n (f := 2) (pc := 47) rfl rfl rfl (by decide +kernel)) (
  mA (i := 25) (ok_goto (off := 28) (pc := 48) (tgt := 76) rfl rfl (by decide +kernel) (by decide +kernel)) (
  mA (i := 26) (ok_ild (pc := 51) rfl rfl (by decide +kernel)) (
  mA (i := 27) (ok_bi (n := 12) (pc := 53) (by decide +kernel) rfl rfl (by decide +kernel)) (
  mA (i := 28) (ok_cge (off := 7) (pc := 55) (tgt := 62) rfl rfl rfl (by decide +kernel) (by decide +kernel)) (
  mA (i := 29) (ok_ild_n (f := 3) (pc := 58) rfl rfl rfl (by decide +kernel)) (
  mA (i := 30) (ok_goto (off := 17) (pc := 59) (tgt := 76) rfl rfl (by decide +kernel) (by decide +kernel)) (
  mA (i := 31) (ok_ild (pc := 62) rfl rfl (by decide +kernel)) (
  mA (i := 32) (ok_bi (n := 16) (pc := 64) (by decide +kernel) rfl rfl (by decide +kernel)) (
  mA (i := 33) (ok_cge (off := 8) (pc := 66) (tgt := 74) rfl rfl rfl (by decide +kernel) (by decide +kernel)) (
  mA (i := 34) (ok_ild (pc := 69) rfl rfl (by decide +kernel)) (
  mA (i := 35) (ok_goto (off := 5) (pc := 71) (tgt := 76) rfl rfl (by decide +kernel) (by decide +kernel)) (
  mA (i := 36) (ok_ild (pc := 74) rfl rfl (by decide +kernel)) (
  mA (i := 37) (ok_ist (pc := 76) (by decide +kernel) rfl rfl rfl (by decide +kernel)) (
  mA (i := 38) (ok_ald_n (f := 0) (pc := 78) rfl rfl rfl (by decide +kernel)) (
  mA (i := 39) (ok_gP (pc := 79) rfl (by decide +kernel) wd_579 inw_11 rfl rfl (by decide +kernel)) (
  mA (i := 40) (ok_ald_n (f := 0) (pc := 82) rfl rfl rfl (by decide +kernel)) (
  mA (i := 41) (ok_gI (pc := 83) rfl (by decide +kernel) wd_619 inw_11 rfl rfl (by decide +kernel)) (
  mA (i := 42) (ok_ild (pc := 86) rfl rfl (by decide +kernel)) (
  mA (i := 43) (ok_bi (n := 24) (pc := 88) (by decide +kernel) rfl rfl (by decide +kernel)) (
  mA (i := 44) (ok_bi (n := 8) (pc := 90) (by decide +kernel) rfl rfl (by decide +kernel)) (
  mA (i := 45) (ok_ild (pc := 92) rfl rfl (by decide +kernel)) (
  mA (i := 46) (ok_ic (n := 4) (pc := 94) (by decide +kernel) rfl rfl (by decide +kernel)) (
  mA (i := 47) (ok_rem (pc := 95) rfl rfl (by decide +kernel)) (
  mA (i := 48) (ok_mul (pc := 96) rfl rfl (by decide +kernel)) (
  mA (i := 49) (ok_sub (pc := 97) rfl rfl (by decide +kernel)) (
  mA (i := 50) (ok_shr (pc := 98) rfl rfl (by decide +kernel)) (
  mA (i := 51) (ok_si (n := 255) (pc := 99) (by decide +kernel) rfl rfl (by decide +kernel)) (
  mA (i := 52) (ok_and (pc := 102) rfl rfl (by decide +kernel)) (
  mA (i := 53) (ok_iast (pc := 103) rfl rfl (by decide +kernel)) (
  mA (i := 54) (ok_ald_n (f := 0) (pc := 104) rfl rfl rfl (by decide +kernel)) (
  mA (i := 55) (ok_dup (pc := 105) rfl rfl (by decide +kernel)) (
  mA (i := 56) (ok_gI (pc := 106) rfl (by decide +kernel) wd_619 inw_11 rfl rfl (by decide +kernel)) (
  mA (i := 57) (ok_ic (n := 1) (pc := 109) (by decide +kernel) rfl rfl (by decide +kernel)) (
  mA (i := 58) (ok_add (pc := 110) rfl rfl (by decide +kernel)) (
  mA (i := 59) (ok_pI (pc := 111) rfl (by decide +kernel) wd_619 inw_11 tyX10_ok nmX10 rfl (by decide +kernel) rfl rfl (by decide +kernel)) (
  ok_N_feed_t60))))))))))))))))))))))))))))))))))))))))))))))))))))))))))))
set_option maxRecDepth 20000 in
theorem ok_N_see : mAll (mOk RX10 cX10_see 1 true false (some .int) (mnat p_N_see)) 0 k_N_see := mA (i := 0) (ok_ald_n (f := 0) (pc := 0) rfl rfl rfl (by decide +kernel)) (
  mA (i := 1) (ok_gI (pc := 1) rfl (by decide +kernel) wd_620 inw_11 rfl rfl (by decide +kernel)) (
  mA (i := 2) (ok_ald_n (f := 0) (pc := 4) rfl rfl rfl (by decide +kernel)) (
  mA (i := 3) (ok_gI (pc := 5) rfl (by decide +kernel) wd_621 inw_11 rfl rfl (by decide +kernel)) (
  mA (i := 4) (ok_cge (off := 15) (pc := 8) (tgt := 23) rfl rfl rfl (by decide +kernel) (by decide +kernel)) (
  mA (i := 5) (ok_ald_n (f := 0) (pc := 11) rfl rfl rfl (by decide +kernel)) (
  mA (i := 6) (ok_gP (pc := 12) rfl (by decide +kernel) wd_579 inw_11 rfl rfl (by decide +kernel)) (
  mA (i := 7) (ok_ald_n (f := 0) (pc := 15) rfl rfl rfl (by decide +kernel)) (
  mA (i := 8) (ok_gI (pc := 16) rfl (by decide +kernel) wd_620 inw_11 rfl rfl (by decide +kernel)) (
  mA (i := 9) (ok_iald (pc := 19) rfl rfl (by decide +kernel)) (
  mA (i := 10) (ok_goto (off := 4) (pc := 20) (tgt := 24) rfl rfl (by decide +kernel) (by decide +kernel)) (
  mA (i := 11) (ok_ic (n := (-1)) (pc := 23) (by decide +kernel) rfl rfl (by decide +kernel)) (
  mA (i := 12) (ok_iret (pc := 24) rfl rfl (by decide +kernel)) (
  mZ)))))))))))))
set_option maxRecDepth 20000 in
theorem ok_N_fails : mAll (mOk RX10 cX10_fails 2 true false none (mnat p_N_fails)) 0 k_N_fails := mA (i := 0) (ok_ald_n (f := 0) (pc := 0) rfl rfl rfl (by decide +kernel)) (
  mA (i := 1) (ok_gI (pc := 1) rfl (by decide +kernel) wd_622 inw_11 rfl rfl (by decide +kernel)) (
  mA (i := 2) (ok_ifeq (off := 4) (pc := 4) (tgt := 8) rfl rfl rfl (by decide +kernel) (by decide +kernel)) (
  mA (i := 3) (ok_vret (pc := 7) rfl rfl (by decide +kernel)) (
  mA (i := 4) (ok_ald_n (f := 0) (pc := 8) rfl rfl rfl (by decide +kernel)) (
  mA (i := 5) (ok_ild_n (f := 1) (pc := 9) rfl rfl rfl (by decide +kernel)) (
  mA (i := 6) (ok_pI (pc := 10) rfl (by decide +kernel) wd_622 inw_11 tyX10_ok nmX10 rfl (by decide +kernel) rfl rfl (by decide +kernel)) (
  mA (i := 7) (ok_ald_n (f := 0) (pc := 13) rfl rfl rfl (by decide +kernel)) (
  mA (i := 8) (ok_ald_n (f := 0) (pc := 14) rfl rfl rfl (by decide +kernel)) (
  mA (i := 9) (ok_gI (pc := 15) rfl (by decide +kernel) wd_620 inw_11 rfl rfl (by decide +kernel)) (
  mA (i := 10) (ok_pI (pc := 18) rfl (by decide +kernel) wd_623 inw_11 tyX10_ok nmX10 rfl (by decide +kernel) rfl rfl (by decide +kernel)) (
  mA (i := 11) (ok_vret (pc := 21) rfl rfl (by decide +kernel)) (
  mZ))))))))))))
set_option maxRecDepth 20000 in
theorem ok_N_eats : mAll (mOk RX10 cX10_eats 2 true false (some .boolean) (mnat p_N_eats)) 0 k_N_eats := mA (i := 0) (ok_ald_n (f := 0) (pc := 0) rfl rfl rfl (by decide +kernel)) (
  mA (i := 1) (ok_gI (pc := 1) rfl (by decide +kernel) wd_622 inw_11 rfl rfl (by decide +kernel)) (
  mA (i := 2) (ok_ifne (off := 11) (pc := 4) (tgt := 15) rfl rfl rfl (by decide +kernel) (by decide +kernel)) (
  mA (i := 3) (ok_ald_n (f := 0) (pc := 7) rfl rfl rfl (by decide +kernel)) (
  mA (i := 4) (ok_callI (pc := 8) (can_V cal_N_see (by decide +kernel) rfl (by decide +kernel) rfl wd_624 wd_625 wd_626 wd_605 (by decide +kernel)) rfl rfl) (
  mA (i := 5) (ok_ild_n (f := 1) (pc := 11) rfl rfl rfl (by decide +kernel)) (
  mA (i := 6) (ok_ceq (off := 5) (pc := 12) (tgt := 17) rfl rfl rfl (by decide +kernel) (by decide +kernel)) (
  mA (i := 7) (ok_ic (n := 0) (pc := 15) (by decide +kernel) rfl rfl (by decide +kernel)) (
  mA (i := 8) (ok_zret (pc := 16) rfl rfl (by decide +kernel)) (
  mA (i := 9) (ok_ald_n (f := 0) (pc := 17) rfl rfl rfl (by decide +kernel)) (
  mA (i := 10) (ok_dup (pc := 18) rfl rfl (by decide +kernel)) (
  mA (i := 11) (ok_gI (pc := 19) rfl (by decide +kernel) wd_620 inw_11 rfl rfl (by decide +kernel)) (
  mA (i := 12) (ok_ic (n := 1) (pc := 22) (by decide +kernel) rfl rfl (by decide +kernel)) (
  mA (i := 13) (ok_add (pc := 23) rfl rfl (by decide +kernel)) (
  mA (i := 14) (ok_pI (pc := 24) rfl (by decide +kernel) wd_620 inw_11 tyX10_ok nmX10 rfl (by decide +kernel) rfl rfl (by decide +kernel)) (
  mA (i := 15) (ok_ic (n := 1) (pc := 27) (by decide +kernel) rfl rfl (by decide +kernel)) (
  mA (i := 16) (ok_zret (pc := 28) rfl rfl (by decide +kernel)) (
  mZ)))))))))))))))))
set_option maxRecDepth 20000 in
theorem ok_N_wants : mAll (mOk RX10 cX10_wants 2 true false none (mnat p_N_wants)) 0 k_N_wants := mA (i := 0) (ok_ald_n (f := 0) (pc := 0) rfl rfl rfl (by decide +kernel)) (
  mA (i := 1) (ok_ild_n (f := 1) (pc := 1) rfl rfl rfl (by decide +kernel)) (
  mA (i := 2) (ok_callI (pc := 2) (can_V cal_N_eats (by decide +kernel) rfl (by decide +kernel) rfl wd_627 wd_628 wd_629 wd_605 (by decide +kernel)) rfl rfl) (
  mA (i := 3) (ok_ifne (off := 8) (pc := 5) (tgt := 13) rfl rfl rfl (by decide +kernel) (by decide +kernel)) (
  mA (i := 4) (ok_ald_n (f := 0) (pc := 8) rfl rfl rfl (by decide +kernel)) (
  mA (i := 5) (ok_ic (n := 1) (pc := 9) (by decide +kernel) rfl rfl (by decide +kernel)) (
  mA (i := 6) (ok_callV (pc := 10) (can_V cal_N_fails (by decide +kernel) rfl (by decide +kernel) rfl wd_630 wd_631 wd_632 wd_605 (by decide +kernel)) rfl rfl) (
  mA (i := 7) (ok_vret (pc := 13) rfl rfl (by decide +kernel)) (
  mZ))))))))
set_option maxRecDepth 20000 in
theorem ok_N_lays : mAll (mOk RX10 cX10_lays 2 true false none (mnat p_N_lays)) 0 k_N_lays := mA (i := 0) (ok_ald_n (f := 0) (pc := 0) rfl rfl rfl (by decide +kernel)) (
  mA (i := 1) (ok_gI (pc := 1) rfl (by decide +kernel) wd_633 inw_11 rfl rfl (by decide +kernel)) (
  mA (i := 2) (ok_bi (n := 30) (pc := 4) (by decide +kernel) rfl rfl (by decide +kernel)) (
  mA (i := 3) (ok_cne (off := 11) (pc := 6) (tgt := 17) rfl rfl rfl (by decide +kernel) (by decide +kernel)) (
  mA (i := 4) (ok_ald_n (f := 0) (pc := 9) rfl rfl rfl (by decide +kernel)) (
  mA (i := 5) (ok_ic (n := 3) (pc := 10) (by decide +kernel) rfl rfl (by decide +kernel)) (
  mA (i := 6) (ok_callV (pc := 11) (can_V cal_N_fails (by decide +kernel) rfl (by decide +kernel) rfl wd_630 wd_631 wd_632 wd_605 (by decide +kernel)) rfl rfl) (
  mA (i := 7) (ok_goto (off := 22) (pc := 14) (tgt := 36) rfl rfl (by decide +kernel) (by decide +kernel)) (
  mA (i := 8) (ok_ild_n (f := 1) (pc := 17) rfl rfl rfl (by decide +kernel)) (
  mA (i := 9) (ok_bi (n := 100) (pc := 18) (by decide +kernel) rfl rfl (by decide +kernel)) (
  mA (i := 10) (ok_cge (off := 16) (pc := 20) (tgt := 36) rfl rfl rfl (by decide +kernel) (by decide +kernel)) (
  mA (i := 11) (ok_ald_n (f := 0) (pc := 23) rfl rfl rfl (by decide +kernel)) (
  mA (i := 12) (ok_gI (pc := 24) rfl (by decide +kernel) wd_634 inw_11 rfl rfl (by decide +kernel)) (
  mA (i := 13) (ok_ic (n := 5) (pc := 27) (by decide +kernel) rfl rfl (by decide +kernel)) (
  mA (i := 14) (ok_cle (off := 8) (pc := 28) (tgt := 36) rfl rfl rfl (by decide +kernel) (by decide +kernel)) (
  mA (i := 15) (ok_ald_n (f := 0) (pc := 31) rfl rfl rfl (by decide +kernel)) (
  mA (i := 16) (ok_ic (n := 4) (pc := 32) (by decide +kernel) rfl rfl (by decide +kernel)) (
  mA (i := 17) (ok_callV (pc := 33) (can_V cal_N_fails (by decide +kernel) rfl (by decide +kernel) rfl wd_630 wd_631 wd_632 wd_605 (by decide +kernel)) rfl rfl) (
  mA (i := 18) (ok_ald_n (f := 0) (pc := 36) rfl rfl rfl (by decide +kernel)) (
  mA (i := 19) (ok_gI (pc := 37) rfl (by decide +kernel) wd_622 inw_11 rfl rfl (by decide +kernel)) (
  mA (i := 20) (ok_ifeq (off := 4) (pc := 40) (tgt := 44) rfl rfl rfl (by decide +kernel) (by decide +kernel)) (
  mA (i := 21) (ok_vret (pc := 43) rfl rfl (by decide +kernel)) (
  mA (i := 22) (ok_ald_n (f := 0) (pc := 44) rfl rfl rfl (by decide +kernel)) (
  mA (i := 23) (ok_gP (pc := 45) rfl (by decide +kernel) wd_580 inw_11 rfl rfl (by decide +kernel)) (
  mA (i := 24) (ok_ald_n (f := 0) (pc := 48) rfl rfl rfl (by decide +kernel)) (
  mA (i := 25) (ok_gI (pc := 49) rfl (by decide +kernel) wd_633 inw_11 rfl rfl (by decide +kernel)) (
  mA (i := 26) (ok_ild_n (f := 1) (pc := 52) rfl rfl rfl (by decide +kernel)) (
  mA (i := 27) (ok_iast (pc := 53) rfl rfl (by decide +kernel)) (
  mA (i := 28) (ok_ald_n (f := 0) (pc := 54) rfl rfl rfl (by decide +kernel)) (
  mA (i := 29) (ok_dup (pc := 55) rfl rfl (by decide +kernel)) (
  mA (i := 30) (ok_gI (pc := 56) rfl (by decide +kernel) wd_633 inw_11 rfl rfl (by decide +kernel)) (
  mA (i := 31) (ok_ic (n := 1) (pc := 59) (by decide +kernel) rfl rfl (by decide +kernel)) (
  mA (i := 32) (ok_add (pc := 60) rfl rfl (by decide +kernel)) (
  mA (i := 33) (ok_pI (pc := 61) rfl (by decide +kernel) wd_633 inw_11 tyX10_ok nmX10 rfl (by decide +kernel) rfl rfl (by decide +kernel)) (
  mA (i := 34) (ok_ald_n (f := 0) (pc := 64) rfl rfl rfl (by decide +kernel)) (
  mA (i := 35) (ok_dup (pc := 65) rfl rfl (by decide +kernel)) (
  mA (i := 36) (ok_gI (pc := 66) rfl (by decide +kernel) wd_620 inw_11 rfl rfl (by decide +kernel)) (
  mA (i := 37) (ok_ic (n := 1) (pc := 69) (by decide +kernel) rfl rfl (by decide +kernel)) (
  mA (i := 38) (ok_add (pc := 70) rfl rfl (by decide +kernel)) (
  mA (i := 39) (ok_pI (pc := 71) rfl (by decide +kernel) wd_620 inw_11 tyX10_ok nmX10 rfl (by decide +kernel) rfl rfl (by decide +kernel)) (
  mA (i := 40) (ok_vret (pc := 74) rfl rfl (by decide +kernel)) (
  mZ)))))))))))))))))))))))))))))))))))))))))
set_option maxRecDepth 20000 in
theorem ok_N_termCode : mAll (mOk RX10 cX10_termCode 1 true false (some .int) (mnat p_N_termCode)) 0 k_N_termCode := mA (i := 0) (ok_ild_n (f := 0) (pc := 0) rfl rfl rfl (by decide +kernel)) (
  mA (i := 1) (ok_bi (n := 117) (pc := 1) (by decide +kernel) rfl rfl (by decide +kernel)) (
  mA (i := 2) (ok_clt (off := 17) (pc := 3) (tgt := 20) rfl rfl rfl (by decide +kernel) (by decide +kernel)) (
  mA (i := 3) (ok_ild_n (f := 0) (pc := 6) rfl rfl rfl (by decide +kernel)) (
  mA (i := 4) (ok_bi (n := 122) (pc := 7) (by decide +kernel) rfl rfl (by decide +kernel)) (
  mA (i := 5) (ok_cgt (off := 11) (pc := 9) (tgt := 20) rfl rfl rfl (by decide +kernel) (by decide +kernel)) (
  mA (i := 6) (ok_bi (n := 20) (pc := 12) (by decide +kernel) rfl rfl (by decide +kernel)) (
  mA (i := 7) (ok_ild_n (f := 0) (pc := 14) rfl rfl rfl (by decide +kernel)) (
  mA (i := 8) (ok_add (pc := 15) rfl rfl (by decide +kernel)) (
  mA (i := 9) (ok_bi (n := 117) (pc := 16) (by decide +kernel) rfl rfl (by decide +kernel)) (
  mA (i := 10) (ok_sub (pc := 18) rfl rfl (by decide +kernel)) (
  mA (i := 11) (ok_iret (pc := 19) rfl rfl (by decide +kernel)) (
  mA (i := 12) (ok_ild_n (f := 0) (pc := 20) rfl rfl rfl (by decide +kernel)) (
  mA (i := 13) (ok_tsw (lo := 102) (n := 3) (dflt := 33) (offs := #[27, 29, 31]) (len := 27) (pc := 21) (by decide +kernel) rfl rfl (by decide +kernel) (by decide +kernel) (by decide +kernel) rfl (by decide +kernel)) (
  mA (i := 14) (ok_ic (n := 0) (pc := 48) (by decide +kernel) rfl rfl (by decide +kernel)) (
  mA (i := 15) (ok_iret (pc := 49) rfl rfl (by decide +kernel)) (
  mA (i := 16) (ok_ic (n := 1) (pc := 50) (by decide +kernel) rfl rfl (by decide +kernel)) (
  mA (i := 17) (ok_iret (pc := 51) rfl rfl (by decide +kernel)) (
  mA (i := 18) (ok_ic (n := 2) (pc := 52) (by decide +kernel) rfl rfl (by decide +kernel)) (
  mA (i := 19) (ok_iret (pc := 53) rfl rfl (by decide +kernel)) (
  mA (i := 20) (ok_ild_n (f := 0) (pc := 54) rfl rfl rfl (by decide +kernel)) (
  mA (i := 21) (ok_bi (n := 97) (pc := 55) (by decide +kernel) rfl rfl (by decide +kernel)) (
  mA (i := 22) (ok_clt (off := 18) (pc := 57) (tgt := 75) rfl rfl rfl (by decide +kernel) (by decide +kernel)) (
  mA (i := 23) (ok_ild_n (f := 0) (pc := 60) rfl rfl rfl (by decide +kernel)) (
  mA (i := 24) (ok_bi (n := 101) (pc := 61) (by decide +kernel) rfl rfl (by decide +kernel)) (
  mA (i := 25) (ok_cgt (off := 12) (pc := 63) (tgt := 75) rfl rfl rfl (by decide +kernel) (by decide +kernel)) (
  mA (i := 26) (ok_ic (n := 3) (pc := 66) (by decide +kernel) rfl rfl (by decide +kernel)) (
  mA (i := 27) (ok_ild_n (f := 0) (pc := 67) rfl rfl rfl (by decide +kernel)) (
  mA (i := 28) (ok_add (pc := 68) rfl rfl (by decide +kernel)) (
  mA (i := 29) (ok_bi (n := 97) (pc := 69) (by decide +kernel) rfl rfl (by decide +kernel)) (
  mA (i := 30) (ok_sub (pc := 71) rfl rfl (by decide +kernel)) (
  mA (i := 31) (ok_goto (off := 4) (pc := 72) (tgt := 76) rfl rfl (by decide +kernel) (by decide +kernel)) (
  mA (i := 32) (ok_ic (n := (-1)) (pc := 75) (by decide +kernel) rfl rfl (by decide +kernel)) (
  mA (i := 33) (ok_iret (pc := 76) rfl rfl (by decide +kernel)) (
  mZ))))))))))))))))))))))))))))))))))
set_option maxRecDepth 20000 in
theorem ok_N_readTerm : mAll (mOk RX10 cX10_readTerm 2 true false none (mnat p_N_readTerm)) 0 k_N_readTerm := mA (i := 0) (ok_ald_n (f := 0) (pc := 0) rfl rfl rfl (by decide +kernel)) (
  mA (i := 1) (ok_gI (pc := 1) rfl (by decide +kernel) wd_622 inw_11 rfl rfl (by decide +kernel)) (
  mA (i := 2) (ok_ifeq (off := 4) (pc := 4) (tgt := 8) rfl rfl rfl (by decide +kernel) (by decide +kernel)) (
  mA (i := 3) (ok_vret (pc := 7) rfl rfl (by decide +kernel)) (
  mA (i := 4) (ok_ald_n (f := 0) (pc := 8) rfl rfl rfl (by decide +kernel)) (
  mA (i := 5) (ok_callI (pc := 9) (can_V cal_N_see (by decide +kernel) rfl (by decide +kernel) rfl wd_624 wd_625 wd_626 wd_605 (by decide +kernel)) rfl rfl) (
  mA (i := 6) (ok_callI (pc := 12) (can_S cal_N_termCode (by decide +kernel) wd_636 wd_635 wd_605 (by decide +kernel)) rfl rfl) (
  mA (i := 7) (ok_ist_n (f := 1) (pc := 15) rfl (by decide +kernel) rfl rfl rfl (by decide +kernel)) (
  mA (i := 8) (ok_ild_n (f := 1) (pc := 16) rfl rfl rfl (by decide +kernel)) (
  mA (i := 9) (ok_ic (n := (-1)) (pc := 17) (by decide +kernel) rfl rfl (by decide +kernel)) (
  mA (i := 10) (ok_cne (off := 9) (pc := 18) (tgt := 27) rfl rfl rfl (by decide +kernel) (by decide +kernel)) (
  mA (i := 11) (ok_ald_n (f := 0) (pc := 21) rfl rfl rfl (by decide +kernel)) (
  mA (i := 12) (ok_ic (n := 1) (pc := 22) (by decide +kernel) rfl rfl (by decide +kernel)) (
  mA (i := 13) (ok_callV (pc := 23) (can_V cal_N_fails (by decide +kernel) rfl (by decide +kernel) rfl wd_630 wd_631 wd_632 wd_605 (by decide +kernel)) rfl rfl) (
  mA (i := 14) (ok_vret (pc := 26) rfl rfl (by decide +kernel)) (
  mA (i := 15) (ok_ald_n (f := 0) (pc := 27) rfl rfl rfl (by decide +kernel)) (
  mA (i := 16) (ok_dup (pc := 28) rfl rfl (by decide +kernel)) (
  mA (i := 17) (ok_gI (pc := 29) rfl (by decide +kernel) wd_634 inw_11 rfl rfl (by decide +kernel)) (
  mA (i := 18) (ok_ic (n := 1) (pc := 32) (by decide +kernel) rfl rfl (by decide +kernel)) (
  mA (i := 19) (ok_add (pc := 33) rfl rfl (by decide +kernel)) (
  mA (i := 20) (ok_pI (pc := 34) rfl (by decide +kernel) wd_634 inw_11 tyX10_ok nmX10 rfl (by decide +kernel) rfl rfl (by decide +kernel)) (
  mA (i := 21) (ok_ald_n (f := 0) (pc := 37) rfl rfl rfl (by decide +kernel)) (
  mA (i := 22) (ok_ild_n (f := 1) (pc := 38) rfl rfl rfl (by decide +kernel)) (
  mA (i := 23) (ok_callV (pc := 39) (can_V cal_N_lays (by decide +kernel) rfl (by decide +kernel) rfl wd_637 wd_638 wd_639 wd_605 (by decide +kernel)) rfl rfl) (
  mA (i := 24) (ok_ald_n (f := 0) (pc := 42) rfl rfl rfl (by decide +kernel)) (
  mA (i := 25) (ok_ild_n (f := 1) (pc := 43) rfl rfl rfl (by decide +kernel)) (
  mA (i := 26) (ok_callI (pc := 44) (can_S cal_N_partsOf (by decide +kernel) wd_614 wd_613 wd_605 (by decide +kernel)) rfl rfl) (
  mA (i := 27) (ok_callV (pc := 47) (can_V cal_N_readParts (by decide +kernel) rfl (by decide +kernel) rfl wd_640 wd_641 wd_642 wd_605 (by decide +kernel)) rfl rfl) (
  mA (i := 28) (ok_ald_n (f := 0) (pc := 50) rfl rfl rfl (by decide +kernel)) (
  mA (i := 29) (ok_dup (pc := 51) rfl rfl (by decide +kernel)) (
  mA (i := 30) (ok_gI (pc := 52) rfl (by decide +kernel) wd_634 inw_11 rfl rfl (by decide +kernel)) (
  mA (i := 31) (ok_ic (n := 1) (pc := 55) (by decide +kernel) rfl rfl (by decide +kernel)) (
  mA (i := 32) (ok_sub (pc := 56) rfl rfl (by decide +kernel)) (
  mA (i := 33) (ok_pI (pc := 57) rfl (by decide +kernel) wd_634 inw_11 tyX10_ok nmX10 rfl (by decide +kernel) rfl rfl (by decide +kernel)) (
  mA (i := 34) (ok_vret (pc := 60) rfl rfl (by decide +kernel)) (
  mZ)))))))))))))))))))))))))))))))))))
set_option maxRecDepth 20000 in
theorem ok_N_readParts : mAll (mOk RX10 cX10_readParts 2 true false none (mnat p_N_readParts)) 0 k_N_readParts := mA (i := 0) (ok_ild_n (f := 1) (pc := 0) rfl rfl rfl (by decide +kernel)) (
  mA (i := 1) (ok_ifne (off := 4) (pc := 1) (tgt := 5) rfl rfl rfl (by decide +kernel) (by decide +kernel)) (
  mA (i := 2) (ok_vret (pc := 4) rfl rfl (by decide +kernel)) (
  mA (i := 3) (ok_ald_n (f := 0) (pc := 5) rfl rfl rfl (by decide +kernel)) (
  mA (i := 4) (ok_bi (n := 40) (pc := 6) (by decide +kernel) rfl rfl (by decide +kernel)) (
  mA (i := 5) (ok_callV (pc := 8) (can_V cal_N_wants (by decide +kernel) rfl (by decide +kernel) rfl wd_643 wd_644 wd_645 wd_605 (by decide +kernel)) rfl rfl) (
  mA (i := 6) (ok_ald_n (f := 0) (pc := 11) rfl rfl rfl (by decide +kernel)) (
  mA (i := 7) (ok_callV (pc := 12) (can_V cal_N_readTerm (by decide +kernel) rfl (by decide +kernel) rfl wd_646 wd_647 wd_648 wd_605 (by decide +kernel)) rfl rfl) (
  mA (i := 8) (ok_ild_n (f := 1) (pc := 15) rfl rfl rfl (by decide +kernel)) (
  mA (i := 9) (ok_ic (n := 2) (pc := 16) (by decide +kernel) rfl rfl (by decide +kernel)) (
  mA (i := 10) (ok_cne (off := 13) (pc := 17) (tgt := 30) rfl rfl rfl (by decide +kernel) (by decide +kernel)) (
  mA (i := 11) (ok_ald_n (f := 0) (pc := 20) rfl rfl rfl (by decide +kernel)) (
  mA (i := 12) (ok_bi (n := 44) (pc := 21) (by decide +kernel) rfl rfl (by decide +kernel)) (
  mA (i := 13) (ok_callV (pc := 23) (can_V cal_N_wants (by decide +kernel) rfl (by decide +kernel) rfl wd_643 wd_644 wd_645 wd_605 (by decide +kernel)) rfl rfl) (
  mA (i := 14) (ok_ald_n (f := 0) (pc := 26) rfl rfl rfl (by decide +kernel)) (
  mA (i := 15) (ok_callV (pc := 27) (can_V cal_N_readTerm (by decide +kernel) rfl (by decide +kernel) rfl wd_646 wd_647 wd_648 wd_605 (by decide +kernel)) rfl rfl) (
  mA (i := 16) (ok_ald_n (f := 0) (pc := 30) rfl rfl rfl (by decide +kernel)) (
  mA (i := 17) (ok_bi (n := 41) (pc := 31) (by decide +kernel) rfl rfl (by decide +kernel)) (
  mA (i := 18) (ok_callV (pc := 33) (can_V cal_N_wants (by decide +kernel) rfl (by decide +kernel) rfl wd_643 wd_644 wd_645 wd_605 (by decide +kernel)) rfl rfl) (
  mA (i := 19) (ok_vret (pc := 36) rfl rfl (by decide +kernel)) (
  mZ))))))))))))))))))))
set_option maxRecDepth 20000 in
theorem ok_N_readLiteral : mAll (mOk RX10 cX10_readLiteral 4 true false none (mnat p_N_readLiteral)) 0 k_N_readLiteral := mA (i := 0) (ok_ald_n (f := 0) (pc := 0) rfl rfl rfl (by decide +kernel)) (
  mA (i := 1) (ok_bi (n := 45) (pc := 1) (by decide +kernel) rfl rfl (by decide +kernel)) (
  mA (i := 2) (ok_callI (pc := 3) (can_V cal_N_eats (by decide +kernel) rfl (by decide +kernel) rfl wd_627 wd_628 wd_629 wd_605 (by decide +kernel)) rfl rfl) (
  mA (i := 3) (ok_ist_n (f := 1) (pc := 6) rfl (by decide +kernel) rfl rfl rfl (by decide +kernel)) (
  mA (i := 4) (ok_ald_n (f := 0) (pc := 7) rfl rfl rfl (by decide +kernel)) (
  mA (i := 5) (ok_callI (pc := 8) (can_V cal_N_see (by decide +kernel) rfl (by decide +kernel) rfl wd_624 wd_625 wd_626 wd_605 (by decide +kernel)) rfl rfl) (
  mA (i := 6) (ok_bi (n := 112) (pc := 11) (by decide +kernel) rfl rfl (by decide +kernel)) (
  mA (i := 7) (ok_cne (off := 7) (pc := 13) (tgt := 20) rfl rfl rfl (by decide +kernel) (by decide +kernel)) (
  mA (i := 8) (ok_ic (n := 0) (pc := 16) (by decide +kernel) rfl rfl (by decide +kernel)) (
  mA (i := 9) (ok_goto (off := 43) (pc := 17) (tgt := 60) rfl rfl (by decide +kernel) (by decide +kernel)) (
  mA (i := 10) (ok_ald_n (f := 0) (pc := 20) rfl rfl rfl (by decide +kernel)) (
  mA (i := 11) (ok_callI (pc := 21) (can_V cal_N_see (by decide +kernel) rfl (by decide +kernel) rfl wd_624 wd_625 wd_626 wd_605 (by decide +kernel)) rfl rfl) (
  mA (i := 12) (ok_bi (n := 113) (pc := 24) (by decide +kernel) rfl rfl (by decide +kernel)) (
  mA (i := 13) (ok_cne (off := 7) (pc := 26) (tgt := 33) rfl rfl rfl (by decide +kernel) (by decide +kernel)) (
  mA (i := 14) (ok_ic (n := 1) (pc := 29) (by decide +kernel) rfl rfl (by decide +kernel)) (
  mA (i := 15) (ok_goto (off := 30) (pc := 30) (tgt := 60) rfl rfl (by decide +kernel) (by decide +kernel)) (
  mA (i := 16) (ok_ald_n (f := 0) (pc := 33) rfl rfl rfl (by decide +kernel)) (
  mA (i := 17) (ok_callI (pc := 34) (can_V cal_N_see (by decide +kernel) rfl (by decide +kernel) rfl wd_624 wd_625 wd_626 wd_605 (by decide +kernel)) rfl rfl) (
  mA (i := 18) (ok_bi (n := 114) (pc := 37) (by decide +kernel) rfl rfl (by decide +kernel)) (
  mA (i := 19) (ok_cne (off := 7) (pc := 39) (tgt := 46) rfl rfl rfl (by decide +kernel) (by decide +kernel)) (
  mA (i := 20) (ok_ic (n := 2) (pc := 42) (by decide +kernel) rfl rfl (by decide +kernel)) (
  mA (i := 21) (ok_goto (off := 17) (pc := 43) (tgt := 60) rfl rfl (by decide +kernel) (by decide +kernel)) (
  mA (i := 22) (ok_ald_n (f := 0) (pc := 46) rfl rfl rfl (by decide +kernel)) (
  mA (i := 23) (ok_callI (pc := 47) (can_V cal_N_see (by decide +kernel) rfl (by decide +kernel) rfl wd_624 wd_625 wd_626 wd_605 (by decide +kernel)) rfl rfl) (
  mA (i := 24) (ok_bi (n := 115) (pc := 50) (by decide +kernel) rfl rfl (by decide +kernel)) (
  mA (i := 25) (ok_cne (off := 7) (pc := 52) (tgt := 59) rfl rfl rfl (by decide +kernel) (by decide +kernel)) (
  mA (i := 26) (ok_ic (n := 3) (pc := 55) (by decide +kernel) rfl rfl (by decide +kernel)) (
  mA (i := 27) (ok_goto (off := 4) (pc := 56) (tgt := 60) rfl rfl (by decide +kernel) (by decide +kernel)) (
  mA (i := 28) (ok_ic (n := (-1)) (pc := 59) (by decide +kernel) rfl rfl (by decide +kernel)) (
  mA (i := 29) (ok_ist_n (f := 2) (pc := 60) rfl (by decide +kernel) rfl rfl rfl (by decide +kernel)) (
  mA (i := 30) (ok_ild_n (f := 2) (pc := 61) rfl rfl rfl (by decide +kernel)) (
  mA (i := 31) (ok_ic (n := (-1)) (pc := 62) (by decide +kernel) rfl rfl (by decide +kernel)) (
  mA (i := 32) (ok_cne (off := 9) (pc := 63) (tgt := 72) rfl rfl rfl (by decide +kernel) (by decide +kernel)) (
  mA (i := 33) (ok_ald_n (f := 0) (pc := 66) rfl rfl rfl (by decide +kernel)) (
  mA (i := 34) (ok_ic (n := 1) (pc := 67) (by decide +kernel) rfl rfl (by decide +kernel)) (
  mA (i := 35) (ok_callV (pc := 68) (can_V cal_N_fails (by decide +kernel) rfl (by decide +kernel) rfl wd_630 wd_631 wd_632 wd_605 (by decide +kernel)) rfl rfl) (
  mA (i := 36) (ok_vret (pc := 71) rfl rfl (by decide +kernel)) (
  mA (i := 37) (ok_bi (n := 100) (pc := 72) (by decide +kernel) rfl rfl (by decide +kernel)) (
  mA (i := 38) (ok_ic (n := 2) (pc := 74) (by decide +kernel) rfl rfl (by decide +kernel)) (
  mA (i := 39) (ok_ild_n (f := 2) (pc := 75) rfl rfl rfl (by decide +kernel)) (
  mA (i := 40) (ok_mul (pc := 76) rfl rfl (by decide +kernel)) (
  mA (i := 41) (ok_add (pc := 77) rfl rfl (by decide +kernel)) (
  mA (i := 42) (ok_ild_n (f := 1) (pc := 78) rfl rfl rfl (by decide +kernel)) (
  mA (i := 43) (ok_ifeq (off := 7) (pc := 79) (tgt := 86) rfl rfl rfl (by decide +kernel) (by decide +kernel)) (
  mA (i := 44) (ok_ic (n := 1) (pc := 82) (by decide +kernel) rfl rfl (by decide +kernel)) (
  mA (i := 45) (ok_goto (off := 4) (pc := 83) (tgt := 87) rfl rfl (by decide +kernel) (by decide +kernel)) (
  mA (i := 46) (ok_ic (n := 0) (pc := 86) (by decide +kernel) rfl rfl (by decide +kernel)) (
  mA (i := 47) (ok_add (pc := 87) rfl rfl (by decide +kernel)) (
  mA (i := 48) (ok_ist_n (f := 3) (pc := 88) rfl (by decide +kernel) rfl rfl rfl (by decide +kernel)) (
  mA (i := 49) (ok_ald_n (f := 0) (pc := 89) rfl rfl rfl (by decide +kernel)) (
  mA (i := 50) (ok_ild_n (f := 3) (pc := 90) rfl rfl rfl (by decide +kernel)) (
  mA (i := 51) (ok_callV (pc := 91) (can_V cal_N_lays (by decide +kernel) rfl (by decide +kernel) rfl wd_637 wd_638 wd_639 wd_605 (by decide +kernel)) rfl rfl) (
  mA (i := 52) (ok_ald_n (f := 0) (pc := 94) rfl rfl rfl (by decide +kernel)) (
  mA (i := 53) (ok_ild_n (f := 3) (pc := 95) rfl rfl rfl (by decide +kernel)) (
  mA (i := 54) (ok_callI (pc := 96) (can_S cal_N_partsOf (by decide +kernel) wd_614 wd_613 wd_605 (by decide +kernel)) rfl rfl) (
  mA (i := 55) (ok_callV (pc := 99) (can_V cal_N_readParts (by decide +kernel) rfl (by decide +kernel) rfl wd_640 wd_641 wd_642 wd_605 (by decide +kernel)) rfl rfl) (
  mA (i := 56) (ok_vret (pc := 102) rfl rfl (by decide +kernel)) (
  mZ)))))))))))))))))))))))))))))))))))))))))))))))))))))))))
set_option maxRecDepth 20000 in
theorem ok_N_begins : mAll (mOk RX10 cX10_begins 2 true false none (mnat p_N_begins)) 0 k_N_begins := mA (i := 0) (ok_ald_n (f := 0) (pc := 0) rfl rfl rfl (by decide +kernel)) (
  mA (i := 1) (ok_ild_n (f := 1) (pc := 1) rfl rfl rfl (by decide +kernel)) (
  mA (i := 2) (ok_pI (pc := 2) rfl (by decide +kernel) wd_621 inw_11 tyX10_ok nmX10 rfl (by decide +kernel) rfl rfl (by decide +kernel)) (
  mA (i := 3) (ok_ald_n (f := 0) (pc := 5) rfl rfl rfl (by decide +kernel)) (
  mA (i := 4) (ok_ic (n := 0) (pc := 6) (by decide +kernel) rfl rfl (by decide +kernel)) (
  mA (i := 5) (ok_pI (pc := 7) rfl (by decide +kernel) wd_619 inw_11 tyX10_ok nmX10 rfl (by decide +kernel) rfl rfl (by decide +kernel)) (
  mA (i := 6) (ok_ald_n (f := 0) (pc := 10) rfl rfl rfl (by decide +kernel)) (
  mA (i := 7) (ok_ic (n := 0) (pc := 11) (by decide +kernel) rfl rfl (by decide +kernel)) (
  mA (i := 8) (ok_pI (pc := 12) rfl (by decide +kernel) wd_620 inw_11 tyX10_ok nmX10 rfl (by decide +kernel) rfl rfl (by decide +kernel)) (
  mA (i := 9) (ok_ald_n (f := 0) (pc := 15) rfl rfl rfl (by decide +kernel)) (
  mA (i := 10) (ok_ic (n := 0) (pc := 16) (by decide +kernel) rfl rfl (by decide +kernel)) (
  mA (i := 11) (ok_pI (pc := 17) rfl (by decide +kernel) wd_633 inw_11 tyX10_ok nmX10 rfl (by decide +kernel) rfl rfl (by decide +kernel)) (
  mA (i := 12) (ok_ald_n (f := 0) (pc := 20) rfl rfl rfl (by decide +kernel)) (
  mA (i := 13) (ok_ic (n := 0) (pc := 21) (by decide +kernel) rfl rfl (by decide +kernel)) (
  mA (i := 14) (ok_pI (pc := 22) rfl (by decide +kernel) wd_634 inw_11 tyX10_ok nmX10 rfl (by decide +kernel) rfl rfl (by decide +kernel)) (
  mA (i := 15) (ok_ald_n (f := 0) (pc := 25) rfl rfl rfl (by decide +kernel)) (
  mA (i := 16) (ok_ic (n := 0) (pc := 26) (by decide +kernel) rfl rfl (by decide +kernel)) (
  mA (i := 17) (ok_pI (pc := 27) rfl (by decide +kernel) wd_622 inw_11 tyX10_ok nmX10 rfl (by decide +kernel) rfl rfl (by decide +kernel)) (
  mA (i := 18) (ok_vret (pc := 30) rfl rfl (by decide +kernel)) (
  mZ)))))))))))))))))))
set_option maxRecDepth 20000 in
theorem ok_N_ends : mAll (mOk RX10 cX10_ends 1 true false none (mnat p_N_ends)) 0 k_N_ends := mA (i := 0) (ok_ald_n (f := 0) (pc := 0) rfl rfl rfl (by decide +kernel)) (
  mA (i := 1) (ok_gI (pc := 1) rfl (by decide +kernel) wd_622 inw_11 rfl rfl (by decide +kernel)) (
  mA (i := 2) (ok_ifne (off := 19) (pc := 4) (tgt := 23) rfl rfl rfl (by decide +kernel) (by decide +kernel)) (
  mA (i := 3) (ok_ald_n (f := 0) (pc := 7) rfl rfl rfl (by decide +kernel)) (
  mA (i := 4) (ok_gI (pc := 8) rfl (by decide +kernel) wd_620 inw_11 rfl rfl (by decide +kernel)) (
  mA (i := 5) (ok_ald_n (f := 0) (pc := 11) rfl rfl rfl (by decide +kernel)) (
  mA (i := 6) (ok_gI (pc := 12) rfl (by decide +kernel) wd_621 inw_11 rfl rfl (by decide +kernel)) (
  mA (i := 7) (ok_cge (off := 8) (pc := 15) (tgt := 23) rfl rfl rfl (by decide +kernel) (by decide +kernel)) (
  mA (i := 8) (ok_ald_n (f := 0) (pc := 18) rfl rfl rfl (by decide +kernel)) (
  mA (i := 9) (ok_ic (n := 1) (pc := 19) (by decide +kernel) rfl rfl (by decide +kernel)) (
  mA (i := 10) (ok_callV (pc := 20) (can_V cal_N_fails (by decide +kernel) rfl (by decide +kernel) rfl wd_630 wd_631 wd_632 wd_605 (by decide +kernel)) rfl rfl) (
  mA (i := 11) (ok_ald_n (f := 0) (pc := 23) rfl rfl rfl (by decide +kernel)) (
  mA (i := 12) (ok_ald_n (f := 0) (pc := 24) rfl rfl rfl (by decide +kernel)) (
  mA (i := 13) (ok_gI (pc := 25) rfl (by decide +kernel) wd_622 inw_11 rfl rfl (by decide +kernel)) (
  mA (i := 14) (ok_pI (pc := 28) rfl (by decide +kernel) wd_649 inw_11 tyX10_ok nmX10 rfl (by decide +kernel) rfl rfl (by decide +kernel)) (
  mA (i := 15) (ok_ald_n (f := 0) (pc := 31) rfl rfl rfl (by decide +kernel)) (
  mA (i := 16) (ok_ald_n (f := 0) (pc := 32) rfl rfl rfl (by decide +kernel)) (
  mA (i := 17) (ok_gI (pc := 33) rfl (by decide +kernel) wd_622 inw_11 rfl rfl (by decide +kernel)) (
  mA (i := 18) (ok_ifne (off := 7) (pc := 36) (tgt := 43) rfl rfl rfl (by decide +kernel) (by decide +kernel)) (
  mA (i := 19) (ok_ic (n := (-1)) (pc := 39) (by decide +kernel) rfl rfl (by decide +kernel)) (
  mA (i := 20) (ok_goto (off := 7) (pc := 40) (tgt := 47) rfl rfl (by decide +kernel) (by decide +kernel)) (
  mA (i := 21) (ok_ald_n (f := 0) (pc := 43) rfl rfl rfl (by decide +kernel)) (
  mA (i := 22) (ok_gI (pc := 44) rfl (by decide +kernel) wd_623 inw_11 rfl rfl (by decide +kernel)) (
  mA (i := 23) (ok_pI (pc := 47) rfl (by decide +kernel) wd_581 inw_11 tyX10_ok nmX10 rfl (by decide +kernel) rfl rfl (by decide +kernel)) (
  mA (i := 24) (ok_vret (pc := 50) rfl rfl (by decide +kernel)) (
  mZ)))))))))))))))))))))))))
set_option maxRecDepth 20000 in
theorem ok_N_readsClause : mAll (mOk RX10 cX10_readsClause 3 true false none (mnat p_N_readsClause)) 0 k_N_readsClause := mA (i := 0) (ok_ald_n (f := 0) (pc := 0) rfl rfl rfl (by decide +kernel)) (
  mA (i := 1) (ok_ild_n (f := 1) (pc := 1) rfl rfl rfl (by decide +kernel)) (
  mA (i := 2) (ok_callV (pc := 2) (can_V cal_N_begins (by decide +kernel) rfl (by decide +kernel) rfl wd_650 wd_651 wd_652 wd_605 (by decide +kernel)) rfl rfl) (
  mA (i := 3) (ok_ild_n (f := 1) (pc := 5) rfl rfl rfl (by decide +kernel)) (
  mA (i := 4) (ok_ifle (off := 7) (pc := 6) (tgt := 13) rfl rfl rfl (by decide +kernel) (by decide +kernel)) (
  mA (i := 5) (ok_ald_n (f := 0) (pc := 9) rfl rfl rfl (by decide +kernel)) (
  mA (i := 6) (ok_callV (pc := 10) (can_V cal_N_readLiteral (by decide +kernel) rfl (by decide +kernel) rfl wd_653 wd_654 wd_655 wd_605 (by decide +kernel)) rfl rfl) (
  mA (i := 7) (ok_ic (n := 1) (pc := 13) (by decide +kernel) rfl rfl (by decide +kernel)) (
  mA (i := 8) (ok_ist_n (f := 2) (pc := 14) rfl (by decide +kernel) rfl rfl rfl (by decide +kernel)) (
  mA (i := 9) (ok_ald_n (f := 0) (pc := 15) rfl rfl rfl (by decide +kernel)) (
  mA (i := 10) (ok_gI (pc := 16) rfl (by decide +kernel) wd_622 inw_11 rfl rfl (by decide +kernel)) (
  mA (i := 11) (ok_ifne (off := 52) (pc := 19) (tgt := 71) rfl rfl rfl (by decide +kernel) (by decide +kernel)) (
  mA (i := 12) (ok_ald_n (f := 0) (pc := 22) rfl rfl rfl (by decide +kernel)) (
  mA (i := 13) (ok_callI (pc := 23) (can_V cal_N_see (by decide +kernel) rfl (by decide +kernel) rfl wd_624 wd_625 wd_626 wd_605 (by decide +kernel)) rfl rfl) (
  mA (i := 14) (ok_bi (n := 124) (pc := 26) (by decide +kernel) rfl rfl (by decide +kernel)) (
  mA (i := 15) (ok_cne (off := 43) (pc := 28) (tgt := 71) rfl rfl rfl (by decide +kernel) (by decide +kernel)) (
  mA (i := 16) (ok_ild_n (f := 2) (pc := 31) rfl rfl rfl (by decide +kernel)) (
  mA (i := 17) (ok_ic (n := 5) (pc := 32) (by decide +kernel) rfl rfl (by decide +kernel)) (
  mA (i := 18) (ok_cne (off := 11) (pc := 33) (tgt := 44) rfl rfl rfl (by decide +kernel) (by decide +kernel)) (
  mA (i := 19) (ok_ald_n (f := 0) (pc := 36) rfl rfl rfl (by decide +kernel)) (
  mA (i := 20) (ok_ic (n := 2) (pc := 37) (by decide +kernel) rfl rfl (by decide +kernel)) (
  mA (i := 21) (ok_callV (pc := 38) (can_V cal_N_fails (by decide +kernel) rfl (by decide +kernel) rfl wd_630 wd_631 wd_632 wd_605 (by decide +kernel)) rfl rfl) (
  mA (i := 22) (ok_goto (off := 13) (pc := 41) (tgt := 54) rfl rfl (by decide +kernel) (by decide +kernel)) (
  mA (i := 23) (ok_ald_n (f := 0) (pc := 44) rfl rfl rfl (by decide +kernel)) (
  mA (i := 24) (ok_dup (pc := 45) rfl rfl (by decide +kernel)) (
  mA (i := 25) (ok_gI (pc := 46) rfl (by decide +kernel) wd_620 inw_11 rfl rfl (by decide +kernel)) (
  mA (i := 26) (ok_ic (n := 1) (pc := 49) (by decide +kernel) rfl rfl (by decide +kernel)) (
  mA (i := 27) (ok_add (pc := 50) rfl rfl (by decide +kernel)) (
  mA (i := 28) (ok_pI (pc := 51) rfl (by decide +kernel) wd_620 inw_11 tyX10_ok nmX10 rfl (by decide +kernel) rfl rfl (by decide +kernel)) (
  mA (i := 29) (ok_ald_n (f := 0) (pc := 54) rfl rfl rfl (by decide +kernel)) (
  mA (i := 30) (ok_gI (pc := 55) rfl (by decide +kernel) wd_622 inw_11 rfl rfl (by decide +kernel)) (
  mA (i := 31) (ok_ifne (off := 7) (pc := 58) (tgt := 65) rfl rfl rfl (by decide +kernel) (by decide +kernel)) (
  mA (i := 32) (ok_ald_n (f := 0) (pc := 61) rfl rfl rfl (by decide +kernel)) (
  mA (i := 33) (ok_callV (pc := 62) (can_V cal_N_readLiteral (by decide +kernel) rfl (by decide +kernel) rfl wd_653 wd_654 wd_655 wd_605 (by decide +kernel)) rfl rfl) (
  mA (i := 34) (ok_inc (z := 1) (pc := 65) (by decide +kernel) (by decide +kernel) rfl rfl rfl (by decide +kernel)) (
  mA (i := 35) (ok_goto (off := (-53)) (pc := 68) (tgt := 15) rfl rfl (by decide +kernel) (by decide +kernel)) (
  mA (i := 36) (ok_ald_n (f := 0) (pc := 71) rfl rfl rfl (by decide +kernel)) (
  mA (i := 37) (ok_callV (pc := 72) (can_V cal_N_ends (by decide +kernel) rfl (by decide +kernel) rfl wd_656 wd_657 wd_658 wd_605 (by decide +kernel)) rfl rfl) (
  mA (i := 38) (ok_vret (pc := 75) rfl rfl (by decide +kernel)) (
  mZ)))))))))))))))))))))))))))))))))))))))
set_option maxRecDepth 20000 in
theorem ok_N_keeps : mAll (mOk RX10 cX10_keeps 3 true false none (mnat p_N_keeps)) 0 k_N_keeps := mA (i := 0) (ok_ald_n (f := 0) (pc := 0) rfl rfl rfl (by decide +kernel)) (
  mA (i := 1) (ok_gP (pc := 1) rfl (by decide +kernel) wd_575 inw_11 rfl rfl (by decide +kernel)) (
  mA (i := 2) (ok_bi (n := 32) (pc := 4) (by decide +kernel) rfl rfl (by decide +kernel)) (
  mA (i := 3) (ok_ild_n (f := 1) (pc := 6) rfl rfl rfl (by decide +kernel)) (
  mA (i := 4) (ok_mul (pc := 7) rfl rfl (by decide +kernel)) (
  mA (i := 5) (ok_ic (n := 0) (pc := 8) (by decide +kernel) rfl rfl (by decide +kernel)) (
  mA (i := 6) (ok_add (pc := 9) rfl rfl (by decide +kernel)) (
  mA (i := 7) (ok_ic (n := 1) (pc := 10) (by decide +kernel) rfl rfl (by decide +kernel)) (
  mA (i := 8) (ok_iast (pc := 11) rfl rfl (by decide +kernel)) (
  mA (i := 9) (ok_ald_n (f := 0) (pc := 12) rfl rfl rfl (by decide +kernel)) (
  mA (i := 10) (ok_gP (pc := 13) rfl (by decide +kernel) wd_575 inw_11 rfl rfl (by decide +kernel)) (
  mA (i := 11) (ok_bi (n := 32) (pc := 16) (by decide +kernel) rfl rfl (by decide +kernel)) (
  mA (i := 12) (ok_ild_n (f := 1) (pc := 18) rfl rfl rfl (by decide +kernel)) (
  mA (i := 13) (ok_mul (pc := 19) rfl rfl (by decide +kernel)) (
  mA (i := 14) (ok_ic (n := 1) (pc := 20) (by decide +kernel) rfl rfl (by decide +kernel)) (
  mA (i := 15) (ok_add (pc := 21) rfl rfl (by decide +kernel)) (
  mA (i := 16) (ok_ald_n (f := 0) (pc := 22) rfl rfl rfl (by decide +kernel)) (
  mA (i := 17) (ok_gI (pc := 23) rfl (by decide +kernel) wd_633 inw_11 rfl rfl (by decide +kernel)) (
  mA (i := 18) (ok_iast (pc := 26) rfl rfl (by decide +kernel)) (
  mA (i := 19) (ok_ic (n := 0) (pc := 27) (by decide +kernel) rfl rfl (by decide +kernel)) (
  mA (i := 20) (ok_ist_n (f := 2) (pc := 28) rfl (by decide +kernel) rfl rfl rfl (by decide +kernel)) (
  mA (i := 21) (ok_ild_n (f := 2) (pc := 29) rfl rfl rfl (by decide +kernel)) (
  mA (i := 22) (ok_bi (n := 30) (pc := 30) (by decide +kernel) rfl rfl (by decide +kernel)) (
  mA (i := 23) (ok_cge (off := 40) (pc := 32) (tgt := 72) rfl rfl rfl (by decide +kernel) (by decide +kernel)) (
  mA (i := 24) (ok_ald_n (f := 0) (pc := 35) rfl rfl rfl (by decide +kernel)) (
  mA (i := 25) (ok_gP (pc := 36) rfl (by decide +kernel) wd_575 inw_11 rfl rfl (by decide +kernel)) (
  mA (i := 26) (ok_bi (n := 32) (pc := 39) (by decide +kernel) rfl rfl (by decide +kernel)) (
  mA (i := 27) (ok_ild_n (f := 1) (pc := 41) rfl rfl rfl (by decide +kernel)) (
  mA (i := 28) (ok_mul (pc := 42) rfl rfl (by decide +kernel)) (
  mA (i := 29) (ok_ic (n := 2) (pc := 43) (by decide +kernel) rfl rfl (by decide +kernel)) (
  mA (i := 30) (ok_add (pc := 44) rfl rfl (by decide +kernel)) (
  mA (i := 31) (ok_ild_n (f := 2) (pc := 45) rfl rfl rfl (by decide +kernel)) (
  mA (i := 32) (ok_add (pc := 46) rfl rfl (by decide +kernel)) (
  mA (i := 33) (ok_ild_n (f := 2) (pc := 47) rfl rfl rfl (by decide +kernel)) (
  mA (i := 34) (ok_ald_n (f := 0) (pc := 48) rfl rfl rfl (by decide +kernel)) (
  mA (i := 35) (ok_gI (pc := 49) rfl (by decide +kernel) wd_633 inw_11 rfl rfl (by decide +kernel)) (
  mA (i := 36) (ok_cge (off := 12) (pc := 52) (tgt := 64) rfl rfl rfl (by decide +kernel) (by decide +kernel)) (
  mA (i := 37) (ok_ald_n (f := 0) (pc := 55) rfl rfl rfl (by decide +kernel)) (
  mA (i := 38) (ok_gP (pc := 56) rfl (by decide +kernel) wd_580 inw_11 rfl rfl (by decide +kernel)) (
  mA (i := 39) (ok_ild_n (f := 2) (pc := 59) rfl rfl rfl (by decide +kernel)) (
  mA (i := 40) (ok_iald (pc := 60) rfl rfl (by decide +kernel)) (
  mA (i := 41) (ok_goto (off := 4) (pc := 61) (tgt := 65) rfl rfl (by decide +kernel) (by decide +kernel)) (
  mA (i := 42) (ok_ic (n := 0) (pc := 64) (by decide +kernel) rfl rfl (by decide +kernel)) (
  mA (i := 43) (ok_iast (pc := 65) rfl rfl (by decide +kernel)) (
  mA (i := 44) (ok_inc (z := 1) (pc := 66) (by decide +kernel) (by decide +kernel) rfl rfl rfl (by decide +kernel)) (
  mA (i := 45) (ok_goto (off := (-40)) (pc := 69) (tgt := 29) rfl rfl (by decide +kernel) (by decide +kernel)) (
  mA (i := 46) (ok_vret (pc := 72) rfl rfl (by decide +kernel)) (
  mZ)))))))))))))))))))))))))))))))))))))))))))))))
set_option maxRecDepth 20000 in
theorem ok_N_lowestFree : mAll (mOk RX10 cX10_lowestFree 2 true false (some .int) (mnat p_N_lowestFree)) 0 k_N_lowestFree := mA (i := 0) (ok_ic (n := 0) (pc := 0) (by decide +kernel) rfl rfl (by decide +kernel)) (
  mA (i := 1) (ok_ist_n (f := 1) (pc := 1) rfl (by decide +kernel) rfl rfl rfl (by decide +kernel)) (
  mA (i := 2) (ok_ild_n (f := 1) (pc := 2) rfl rfl rfl (by decide +kernel)) (
  mA (i := 3) (ok_bi (n := 24) (pc := 3) (by decide +kernel) rfl rfl (by decide +kernel)) (
  mA (i := 4) (ok_cge (off := 24) (pc := 5) (tgt := 29) rfl rfl rfl (by decide +kernel) (by decide +kernel)) (
  mA (i := 5) (ok_ald_n (f := 0) (pc := 8) rfl rfl rfl (by decide +kernel)) (
  mA (i := 6) (ok_gP (pc := 9) rfl (by decide +kernel) wd_575 inw_11 rfl rfl (by decide +kernel)) (
  mA (i := 7) (ok_bi (n := 32) (pc := 12) (by decide +kernel) rfl rfl (by decide +kernel)) (
  mA (i := 8) (ok_ild_n (f := 1) (pc := 14) rfl rfl rfl (by decide +kernel)) (
  mA (i := 9) (ok_mul (pc := 15) rfl rfl (by decide +kernel)) (
  mA (i := 10) (ok_ic (n := 0) (pc := 16) (by decide +kernel) rfl rfl (by decide +kernel)) (
  mA (i := 11) (ok_add (pc := 17) rfl rfl (by decide +kernel)) (
  mA (i := 12) (ok_iald (pc := 18) rfl rfl (by decide +kernel)) (
  mA (i := 13) (ok_ic (n := 1) (pc := 19) (by decide +kernel) rfl rfl (by decide +kernel)) (
  mA (i := 14) (ok_cne (off := 9) (pc := 20) (tgt := 29) rfl rfl rfl (by decide +kernel) (by decide +kernel)) (
  mA (i := 15) (ok_inc (z := 1) (pc := 23) (by decide +kernel) (by decide +kernel) rfl rfl rfl (by decide +kernel)) (
  mA (i := 16) (ok_goto (off := (-24)) (pc := 26) (tgt := 2) rfl rfl (by decide +kernel) (by decide +kernel)) (
  mA (i := 17) (ok_ild_n (f := 1) (pc := 29) rfl rfl rfl (by decide +kernel)) (
  mA (i := 18) (ok_iret (pc := 30) rfl rfl (by decide +kernel)) (
  mZ)))))))))))))))))))
set_option maxRecDepth 20000 in
theorem ok_N_add : mAll (mOk RX10 cX10_add 3 true false (some .int) (mnat p_N_add)) 0 k_N_add := mA (i := 0) (ok_ald_n (f := 0) (pc := 0) rfl rfl rfl (by decide +kernel)) (
  mA (i := 1) (ok_ic (n := 0) (pc := 1) (by decide +kernel) rfl rfl (by decide +kernel)) (
  mA (i := 2) (ok_pI (pc := 2) rfl (by decide +kernel) wd_618 inw_11 tyX10_ok nmX10 rfl (by decide +kernel) rfl rfl (by decide +kernel)) (
  mA (i := 3) (ok_ild_n (f := 1) (pc := 5) rfl rfl rfl (by decide +kernel)) (
  mA (i := 4) (ok_i2l (pc := 6) rfl rfl (by decide +kernel)) (
  mA (i := 5) (ok_lc (n := 0) (pc := 7) (by decide +kernel) rfl rfl (by decide +kernel)) (
  mA (i := 6) (ok_ald_n (f := 0) (pc := 8) rfl rfl rfl (by decide +kernel)) (
  mA (i := 7) (ok_gI (pc := 9) rfl (by decide +kernel) wd_619 inw_11 rfl rfl (by decide +kernel)) (
  mA (i := 8) (ok_i2l (pc := 12) rfl rfl (by decide +kernel)) (
  mA (i := 9) (ok_callI (pc := 13) (can_S cal_N_within (by decide +kernel) wd_606 wd_604 wd_605 (by decide +kernel)) rfl rfl) (
  mA (i := 10) (ok_ifne (off := 6) (pc := 16) (tgt := 22) rfl rfl rfl (by decide +kernel) (by decide +kernel)) (
  mA (i := 11) (ok_bi (n := (-3)) (pc := 19) (by decide +kernel) rfl rfl (by decide +kernel)) (
  mA (i := 12) (ok_iret (pc := 21) rfl rfl (by decide +kernel)) (
  mA (i := 13) (ok_ald_n (f := 0) (pc := 22) rfl rfl rfl (by decide +kernel)) (
  mA (i := 14) (ok_callI (pc := 23) (can_V cal_N_lowestFree (by decide +kernel) rfl (by decide +kernel) rfl wd_659 wd_660 wd_661 wd_605 (by decide +kernel)) rfl rfl) (
  mA (i := 15) (ok_ist_n (f := 2) (pc := 26) rfl (by decide +kernel) rfl rfl rfl (by decide +kernel)) (
  mA (i := 16) (ok_ild_n (f := 2) (pc := 27) rfl rfl rfl (by decide +kernel)) (
  mA (i := 17) (ok_bi (n := 24) (pc := 28) (by decide +kernel) rfl rfl (by decide +kernel)) (
  mA (i := 18) (ok_cne (off := 6) (pc := 30) (tgt := 36) rfl rfl rfl (by decide +kernel) (by decide +kernel)) (
  mA (i := 19) (ok_bi (n := (-4)) (pc := 33) (by decide +kernel) rfl rfl (by decide +kernel)) (
  mA (i := 20) (ok_iret (pc := 35) rfl rfl (by decide +kernel)) (
  mA (i := 21) (ok_ald_n (f := 0) (pc := 36) rfl rfl rfl (by decide +kernel)) (
  mA (i := 22) (ok_ild_n (f := 1) (pc := 37) rfl rfl rfl (by decide +kernel)) (
  mA (i := 23) (ok_callV (pc := 38) (can_V cal_N_readsClause (by decide +kernel) rfl (by decide +kernel) rfl wd_662 wd_663 wd_664 wd_605 (by decide +kernel)) rfl rfl) (
  mA (i := 24) (ok_ald_n (f := 0) (pc := 41) rfl rfl rfl (by decide +kernel)) (
  mA (i := 25) (ok_gI (pc := 42) rfl (by decide +kernel) wd_622 inw_11 rfl rfl (by decide +kernel)) (
  mA (i := 26) (ok_ifeq (off := 11) (pc := 45) (tgt := 56) rfl rfl rfl (by decide +kernel) (by decide +kernel)) (
  mA (i := 27) (ok_bi (n := (-30)) (pc := 48) (by decide +kernel) rfl rfl (by decide +kernel)) (
  mA (i := 28) (ok_ald_n (f := 0) (pc := 50) rfl rfl rfl (by decide +kernel)) (
  mA (i := 29) (ok_gI (pc := 51) rfl (by decide +kernel) wd_622 inw_11 rfl rfl (by decide +kernel)) (
  mA (i := 30) (ok_sub (pc := 54) rfl rfl (by decide +kernel)) (
  mA (i := 31) (ok_iret (pc := 55) rfl rfl (by decide +kernel)) (
  mA (i := 32) (ok_ald_n (f := 0) (pc := 56) rfl rfl rfl (by decide +kernel)) (
  mA (i := 33) (ok_callV (pc := 57) (can_V cal_N_notes (by decide +kernel) rfl (by decide +kernel) rfl wd_665 wd_666 wd_667 wd_605 (by decide +kernel)) rfl rfl) (
  mA (i := 34) (ok_ald_n (f := 0) (pc := 60) rfl rfl rfl (by decide +kernel)) (
  mA (i := 35) (ok_ild_n (f := 2) (pc := 61) rfl rfl rfl (by decide +kernel)) (
  mA (i := 36) (ok_callV (pc := 62) (can_V cal_N_keeps (by decide +kernel) rfl (by decide +kernel) rfl wd_668 wd_669 wd_670 wd_605 (by decide +kernel)) rfl rfl) (
  mA (i := 37) (ok_ild_n (f := 2) (pc := 65) rfl rfl rfl (by decide +kernel)) (
  mA (i := 38) (ok_iret (pc := 66) rfl rfl (by decide +kernel)) (
  mZ)))))))))))))))))))))))))))))))))))))))
set_option maxRecDepth 20000 in
theorem ok_N_query : mAll (mOk RX10 cX10_query 2 true false (some .int) (mnat p_N_query)) 0 k_N_query := mA (i := 0) (ok_ald_n (f := 0) (pc := 0) rfl rfl rfl (by decide +kernel)) (
  mA (i := 1) (ok_ic (n := 0) (pc := 1) (by decide +kernel) rfl rfl (by decide +kernel)) (
  mA (i := 2) (ok_pI (pc := 2) rfl (by decide +kernel) wd_618 inw_11 tyX10_ok nmX10 rfl (by decide +kernel) rfl rfl (by decide +kernel)) (
  mA (i := 3) (ok_ild_n (f := 1) (pc := 5) rfl rfl rfl (by decide +kernel)) (
  mA (i := 4) (ok_i2l (pc := 6) rfl rfl (by decide +kernel)) (
  mA (i := 5) (ok_lc (n := 0) (pc := 7) (by decide +kernel) rfl rfl (by decide +kernel)) (
  mA (i := 6) (ok_ald_n (f := 0) (pc := 8) rfl rfl rfl (by decide +kernel)) (
  mA (i := 7) (ok_gI (pc := 9) rfl (by decide +kernel) wd_619 inw_11 rfl rfl (by decide +kernel)) (
  mA (i := 8) (ok_i2l (pc := 12) rfl rfl (by decide +kernel)) (
  mA (i := 9) (ok_callI (pc := 13) (can_S cal_N_within (by decide +kernel) wd_606 wd_604 wd_605 (by decide +kernel)) rfl rfl) (
  mA (i := 10) (ok_ifne (off := 6) (pc := 16) (tgt := 22) rfl rfl rfl (by decide +kernel) (by decide +kernel)) (
  mA (i := 11) (ok_bi (n := (-3)) (pc := 19) (by decide +kernel) rfl rfl (by decide +kernel)) (
  mA (i := 12) (ok_iret (pc := 21) rfl rfl (by decide +kernel)) (
  mA (i := 13) (ok_ald_n (f := 0) (pc := 22) rfl rfl rfl (by decide +kernel)) (
  mA (i := 14) (ok_ild_n (f := 1) (pc := 23) rfl rfl rfl (by decide +kernel)) (
  mA (i := 15) (ok_callV (pc := 24) (can_V cal_N_readsClause (by decide +kernel) rfl (by decide +kernel) rfl wd_662 wd_663 wd_664 wd_605 (by decide +kernel)) rfl rfl) (
  mA (i := 16) (ok_ald_n (f := 0) (pc := 27) rfl rfl rfl (by decide +kernel)) (
  mA (i := 17) (ok_gI (pc := 28) rfl (by decide +kernel) wd_622 inw_11 rfl rfl (by decide +kernel)) (
  mA (i := 18) (ok_ifeq (off := 11) (pc := 31) (tgt := 42) rfl rfl rfl (by decide +kernel) (by decide +kernel)) (
  mA (i := 19) (ok_bi (n := (-30)) (pc := 34) (by decide +kernel) rfl rfl (by decide +kernel)) (
  mA (i := 20) (ok_ald_n (f := 0) (pc := 36) rfl rfl rfl (by decide +kernel)) (
  mA (i := 21) (ok_gI (pc := 37) rfl (by decide +kernel) wd_622 inw_11 rfl rfl (by decide +kernel)) (
  mA (i := 22) (ok_sub (pc := 40) rfl rfl (by decide +kernel)) (
  mA (i := 23) (ok_iret (pc := 41) rfl rfl (by decide +kernel)) (
  mA (i := 24) (ok_ald_n (f := 0) (pc := 42) rfl rfl rfl (by decide +kernel)) (
  mA (i := 25) (ok_bi (n := 24) (pc := 43) (by decide +kernel) rfl rfl (by decide +kernel)) (
  mA (i := 26) (ok_callV (pc := 45) (can_V cal_N_keeps (by decide +kernel) rfl (by decide +kernel) rfl wd_668 wd_669 wd_670 wd_605 (by decide +kernel)) rfl rfl) (
  mA (i := 27) (ok_ald_n (f := 0) (pc := 48) rfl rfl rfl (by decide +kernel)) (
  mA (i := 28) (ok_bi (n := 24) (pc := 49) (by decide +kernel) rfl rfl (by decide +kernel)) (
  mA (i := 29) (ok_callI (pc := 51) (can_V cal_N_literalMany (by decide +kernel) rfl (by decide +kernel) rfl wd_671 wd_672 wd_673 wd_605 (by decide +kernel)) rfl rfl) (
  mA (i := 30) (ok_iret (pc := 54) rfl rfl (by decide +kernel)) (
  mZ)))))))))))))))))))))))))))))))
set_option maxRecDepth 20000 in
theorem ok_N_puts : mAll (mOk RX10 cX10_puts 2 true false none (mnat p_N_puts)) 0 k_N_puts := mA (i := 0) (ok_ald_n (f := 0) (pc := 0) rfl rfl rfl (by decide +kernel)) (
  mA (i := 1) (ok_gI (pc := 1) rfl (by decide +kernel) wd_674 inw_11 rfl rfl (by decide +kernel)) (
  mA (i := 2) (ok_bi (n := 30) (pc := 4) (by decide +kernel) rfl rfl (by decide +kernel)) (
  mA (i := 3) (ok_cge (off := 13) (pc := 6) (tgt := 19) rfl rfl rfl (by decide +kernel) (by decide +kernel)) (
  mA (i := 4) (ok_ald_n (f := 0) (pc := 9) rfl rfl rfl (by decide +kernel)) (
  mA (i := 5) (ok_gP (pc := 10) rfl (by decide +kernel) wd_582 inw_11 rfl rfl (by decide +kernel)) (
  mA (i := 6) (ok_ald_n (f := 0) (pc := 13) rfl rfl rfl (by decide +kernel)) (
  mA (i := 7) (ok_gI (pc := 14) rfl (by decide +kernel) wd_674 inw_11 rfl rfl (by decide +kernel)) (
  mA (i := 8) (ok_ild_n (f := 1) (pc := 17) rfl rfl rfl (by decide +kernel)) (
  mA (i := 9) (ok_iast (pc := 18) rfl rfl (by decide +kernel)) (
  mA (i := 10) (ok_ald_n (f := 0) (pc := 19) rfl rfl rfl (by decide +kernel)) (
  mA (i := 11) (ok_dup (pc := 20) rfl rfl (by decide +kernel)) (
  mA (i := 12) (ok_gI (pc := 21) rfl (by decide +kernel) wd_674 inw_11 rfl rfl (by decide +kernel)) (
  mA (i := 13) (ok_ic (n := 1) (pc := 24) (by decide +kernel) rfl rfl (by decide +kernel)) (
  mA (i := 14) (ok_add (pc := 25) rfl rfl (by decide +kernel)) (
  mA (i := 15) (ok_pI (pc := 26) rfl (by decide +kernel) wd_674 inw_11 tyX10_ok nmX10 rfl (by decide +kernel) rfl rfl (by decide +kernel)) (
  mA (i := 16) (ok_vret (pc := 29) rfl rfl (by decide +kernel)) (
  mZ)))))))))))))))))
set_option maxRecDepth 20000 in
theorem ok_N_isShallow : mAll (mOk RX10 cX10_isShallow 4 true false (some .boolean) (mnat p_N_isShallow)) 0 k_N_isShallow := mA (i := 0) (ok_ic (n := 0) (pc := 0) (by decide +kernel) rfl rfl (by decide +kernel)) (
  mA (i := 1) (ok_ist_n (f := 1) (pc := 1) rfl (by decide +kernel) rfl rfl rfl (by decide +kernel)) (
  mA (i := 2) (ok_ild_n (f := 1) (pc := 2) rfl rfl rfl (by decide +kernel)) (
  mA (i := 3) (ok_ald_n (f := 0) (pc := 3) rfl rfl rfl (by decide +kernel)) (
  mA (i := 4) (ok_gI (pc := 4) rfl (by decide +kernel) wd_674 inw_11 rfl rfl (by decide +kernel)) (
  mA (i := 5) (ok_cge (off := 70) (pc := 7) (tgt := 77) rfl rfl rfl (by decide +kernel) (by decide +kernel)) (
  mA (i := 6) (ok_ic (n := 1) (pc := 10) (by decide +kernel) rfl rfl (by decide +kernel)) (
  mA (i := 7) (ok_ist_n (f := 2) (pc := 11) rfl (by decide +kernel) rfl rfl rfl (by decide +kernel)) (
  mA (i := 8) (ok_ic (n := 0) (pc := 12) (by decide +kernel) rfl rfl (by decide +kernel)) (
  mA (i := 9) (ok_ist_n (f := 3) (pc := 13) rfl (by decide +kernel) rfl rfl rfl (by decide +kernel)) (
  mA (i := 10) (ok_ild_n (f := 3) (pc := 14) rfl rfl rfl (by decide +kernel)) (
  mA (i := 11) (ok_ild_n (f := 1) (pc := 15) rfl rfl rfl (by decide +kernel)) (
  mA (i := 12) (ok_cge (off := 37) (pc := 16) (tgt := 53) rfl rfl rfl (by decide +kernel) (by decide +kernel)) (
  mA (i := 13) (ok_ild_n (f := 2) (pc := 19) rfl rfl rfl (by decide +kernel)) (
  mA (i := 14) (ok_ald_n (f := 0) (pc := 20) rfl rfl rfl (by decide +kernel)) (
  mA (i := 15) (ok_gP (pc := 21) rfl (by decide +kernel) wd_582 inw_11 rfl rfl (by decide +kernel)) (
  mA (i := 16) (ok_ild_n (f := 3) (pc := 24) rfl rfl rfl (by decide +kernel)) (
  mA (i := 17) (ok_iald (pc := 25) rfl rfl (by decide +kernel)) (
  mA (i := 18) (ok_bi (n := 100) (pc := 26) (by decide +kernel) rfl rfl (by decide +kernel)) (
  mA (i := 19) (ok_cge (off := 16) (pc := 28) (tgt := 44) rfl rfl rfl (by decide +kernel) (by decide +kernel)) (
  mA (i := 20) (ok_ald_n (f := 0) (pc := 31) rfl rfl rfl (by decide +kernel)) (
  mA (i := 21) (ok_ild_n (f := 3) (pc := 32) rfl rfl rfl (by decide +kernel)) (
  mA (i := 22) (ok_callI (pc := 33) (can_V cal_N_pastOfPut (by decide +kernel) rfl (by decide +kernel) rfl wd_675 wd_676 wd_677 wd_605 (by decide +kernel)) rfl rfl) (
  mA (i := 23) (ok_ild_n (f := 1) (pc := 36) rfl rfl rfl (by decide +kernel)) (
  mA (i := 24) (ok_cle (off := 7) (pc := 37) (tgt := 44) rfl rfl rfl (by decide +kernel) (by decide +kernel)) (
  mA (i := 25) (ok_ic (n := 1) (pc := 40) (by decide +kernel) rfl rfl (by decide +kernel)) (
  mA (i := 26) (ok_goto (off := 4) (pc := 41) (tgt := 45) rfl rfl (by decide +kernel) (by decide +kernel)) (
  mA (i := 27) (ok_ic (n := 0) (pc := 44) (by decide +kernel) rfl rfl (by decide +kernel)) (
  mA (i := 28) (ok_add (pc := 45) rfl rfl (by decide +kernel)) (
  mA (i := 29) (ok_ist_n (f := 2) (pc := 46) rfl (by decide +kernel) rfl rfl rfl (by decide +kernel)) (
  mA (i := 30) (ok_inc (z := 1) (pc := 47) (by decide +kernel) (by decide +kernel) rfl rfl rfl (by decide +kernel)) (
  mA (i := 31) (ok_goto (off := (-36)) (pc := 50) (tgt := 14) rfl rfl (by decide +kernel) (by decide +kernel)) (
  mA (i := 32) (ok_ald_n (f := 0) (pc := 53) rfl rfl rfl (by decide +kernel)) (
  mA (i := 33) (ok_gP (pc := 54) rfl (by decide +kernel) wd_582 inw_11 rfl rfl (by decide +kernel)) (
  mA (i := 34) (ok_ild_n (f := 1) (pc := 57) rfl rfl rfl (by decide +kernel)) (
  mA (i := 35) (ok_iald (pc := 58) rfl rfl (by decide +kernel)) (
  mA (i := 36) (ok_bi (n := 100) (pc := 59) (by decide +kernel) rfl rfl (by decide +kernel)) (
  mA (i := 37) (ok_cge (off := 10) (pc := 61) (tgt := 71) rfl rfl rfl (by decide +kernel) (by decide +kernel)) (
  mA (i := 38) (ok_ild_n (f := 2) (pc := 64) rfl rfl rfl (by decide +kernel)) (
  mA (i := 39) (ok_ic (n := 5) (pc := 65) (by decide +kernel) rfl rfl (by decide +kernel)) (
  mA (i := 40) (ok_cle (off := 5) (pc := 66) (tgt := 71) rfl rfl rfl (by decide +kernel) (by decide +kernel)) (
  mA (i := 41) (ok_ic (n := 0) (pc := 69) (by decide +kernel) rfl rfl (by decide +kernel)) (
  mA (i := 42) (ok_zret (pc := 70) rfl rfl (by decide +kernel)) (
  mA (i := 43) (ok_inc (z := 1) (pc := 71) (by decide +kernel) (by decide +kernel) rfl rfl rfl (by decide +kernel)) (
  mA (i := 44) (ok_goto (off := (-72)) (pc := 74) (tgt := 2) rfl rfl (by decide +kernel) (by decide +kernel)) (
  mA (i := 45) (ok_ic (n := 1) (pc := 77) (by decide +kernel) rfl rfl (by decide +kernel)) (
  mA (i := 46) (ok_zret (pc := 78) rfl rfl (by decide +kernel)) (
  mZ)))))))))))))))))))))))))))))))))))))))))))))))
set_option maxRecDepth 20000 in
theorem ok_N_pastOfPut : mAll (mOk RX10 cX10_pastOfPut 4 true false (some .int) (mnat p_N_pastOfPut)) 0 k_N_pastOfPut := mA (i := 0) (ok_ic (n := 1) (pc := 0) (by decide +kernel) rfl rfl (by decide +kernel)) (
  mA (i := 1) (ok_ist_n (f := 2) (pc := 1) rfl (by decide +kernel) rfl rfl rfl (by decide +kernel)) (
  mA (i := 2) (ok_ild_n (f := 1) (pc := 2) rfl rfl rfl (by decide +kernel)) (
  mA (i := 3) (ok_ist_n (f := 3) (pc := 3) rfl (by decide +kernel) rfl rfl rfl (by decide +kernel)) (
  mA (i := 4) (ok_ild_n (f := 2) (pc := 4) rfl rfl rfl (by decide +kernel)) (
  mA (i := 5) (ok_ifle (off := 23) (pc := 5) (tgt := 28) rfl rfl rfl (by decide +kernel) (by decide +kernel)) (
  mA (i := 6) (ok_ild_n (f := 2) (pc := 8) rfl rfl rfl (by decide +kernel)) (
  mA (i := 7) (ok_ald_n (f := 0) (pc := 9) rfl rfl rfl (by decide +kernel)) (
  mA (i := 8) (ok_gP (pc := 10) rfl (by decide +kernel) wd_582 inw_11 rfl rfl (by decide +kernel)) (
  mA (i := 9) (ok_ild_n (f := 3) (pc := 13) rfl rfl rfl (by decide +kernel)) (
  mA (i := 10) (ok_iald (pc := 14) rfl rfl (by decide +kernel)) (
  mA (i := 11) (ok_callI (pc := 15) (can_S cal_N_partsOf (by decide +kernel) wd_614 wd_613 wd_605 (by decide +kernel)) rfl rfl) (
  mA (i := 12) (ok_ic (n := 1) (pc := 18) (by decide +kernel) rfl rfl (by decide +kernel)) (
  mA (i := 13) (ok_sub (pc := 19) rfl rfl (by decide +kernel)) (
  mA (i := 14) (ok_add (pc := 20) rfl rfl (by decide +kernel)) (
  mA (i := 15) (ok_ist_n (f := 2) (pc := 21) rfl (by decide +kernel) rfl rfl rfl (by decide +kernel)) (
  mA (i := 16) (ok_inc (z := 1) (pc := 22) (by decide +kernel) (by decide +kernel) rfl rfl rfl (by decide +kernel)) (
  mA (i := 17) (ok_goto (off := (-21)) (pc := 25) (tgt := 4) rfl rfl (by decide +kernel) (by decide +kernel)) (
  mA (i := 18) (ok_ild_n (f := 3) (pc := 28) rfl rfl rfl (by decide +kernel)) (
  mA (i := 19) (ok_iret (pc := 29) rfl rfl (by decide +kernel)) (
  mZ))))))))))))))))))))
set_option maxRecDepth 20000 in
theorem ok_N_apply_t120 : mAll (mOk RX10 cX10_apply 5 true false (some .int) (mnat p_N_apply)) 120 [o_gI 11 17, o_pI 11 10, o_ald 0, o_ic (nI 24), o_callV 215 2 11, o_ald 0, o_gI 11 18, o_iret] := mA (i := 120) (ok_gI (pc := 224) rfl (by decide +kernel) wd_674 inw_11 rfl rfl (by decide +kernel)) (
  mA (i := 121) (ok_pI (pc := 227) rfl (by decide +kernel) wd_633 inw_11 tyX10_ok nmX10 rfl (by decide +kernel) rfl rfl (by decide +kernel)) (
  mA (i := 122) (ok_ald_n (f := 0) (pc := 230) rfl rfl rfl (by decide +kernel)) (
  mA (i := 123) (ok_bi (n := 24) (pc := 231) (by decide +kernel) rfl rfl (by decide +kernel)) (
  mA (i := 124) (ok_callV (pc := 233) (can_V cal_N_keeps (by decide +kernel) rfl (by decide +kernel) rfl wd_668 wd_669 wd_670 wd_605 (by decide +kernel)) rfl rfl) (
  mA (i := 125) (ok_ald_n (f := 0) (pc := 236) rfl rfl rfl (by decide +kernel)) (
  mA (i := 126) (ok_gI (pc := 237) rfl (by decide +kernel) wd_678 inw_11 rfl rfl (by decide +kernel)) (
  mA (i := 127) (ok_iret (pc := 240) rfl rfl (by decide +kernel)) (
  mZ))))))))
set_option maxRecDepth 20000 in
theorem ok_N_apply_t60 : mAll (mOk RX10 cX10_apply 5 true false (some .int) (mnat p_N_apply)) 60 [o_ild 3, o_callI 196 3 11, o_ild 2, o_ceq 71, o_ald 0, o_ald 0, o_ic (nI 24), o_ild 3, o_callI 196 3 11, o_callV 219 2 11, o_goto 91, o_ald 0, o_dup, o_gI 11 18, o_ic (nI 1), o_add, o_pI 11 18, o_ic (nI 1), o_ist 4, o_ild 4, o_ald 0, o_gI 11 10, o_cge 91, o_ald 0, o_ald 0, o_gP 11 6, o_ild 4, o_ald4 21, o_callV 219 2 11, o_inc 4 (nI 1), o_goto 79, o_inc 3 (nI 1), o_goto 53, o_ald 0, o_gI 11 17, o_ic (nI 30), o_cgt 100, o_ald 0, o_callI 220 1 11, o_ifne 102, o_ic ((-4)), o_iret, o_ic (nI 0), o_ist 3, o_ild 3, o_ald 0, o_gI 11 17, o_cge 118, o_ald 0, o_gP 11 6, o_ild 3, o_ald 0, o_gP 11 16, o_ild 3, o_ald4 21, o_iast, o_inc 3 (nI 1), o_goto 104, o_ald 0, o_ald 0, o_gI 11 17, o_pI 11 10, o_ald 0, o_ic (nI 24), o_callV 215 2 11, o_ald 0, o_gI 11 18, o_iret] := mA (i := 60) (ok_ild_n (f := 3) (pc := 108) rfl rfl rfl (by decide +kernel)) (
  mA (i := 61) (ok_callI (pc := 109) (can_V cal_N_codeAt (by decide +kernel) rfl (by decide +kernel) rfl wd_610 wd_611 wd_612 wd_605 (by decide +kernel)) rfl rfl) (
  mA (i := 62) (ok_ild_n (f := 2) (pc := 112) rfl rfl rfl (by decide +kernel)) (
  mA (i := 63) (ok_ceq (off := 17) (pc := 113) (tgt := 130) rfl rfl rfl (by decide +kernel) (by decide +kernel)) (
  mA (i := 64) (ok_ald_n (f := 0) (pc := 116) rfl rfl rfl (by decide +kernel)) (
  mA (i := 65) (ok_ald_n (f := 0) (pc := 117) rfl rfl rfl (by decide +kernel)) (
  mA (i := 66) (ok_bi (n := 24) (pc := 118) (by decide +kernel) rfl rfl (by decide +kernel)) (
  mA (i := 67) (ok_ild_n (f := 3) (pc := 120) rfl rfl rfl (by decide +kernel)) (
  mA (i := 68) (ok_callI (pc := 121) (can_V cal_N_codeAt (by decide +kernel) rfl (by decide +kernel) rfl wd_610 wd_611 wd_612 wd_605 (by decide +kernel)) rfl rfl) (
  mA (i := 69) (ok_callV (pc := 124) (can_V cal_N_puts (by decide +kernel) rfl (by decide +kernel) rfl wd_679 wd_680 wd_681 wd_605 (by decide +kernel)) rfl rfl) (
  mA (i := 70) (ok_goto (off := 42) (pc := 127) (tgt := 169) rfl rfl (by decide +kernel) (by decide +kernel)) (
  mA (i := 71) (ok_ald_n (f := 0) (pc := 130) rfl rfl rfl (by decide +kernel)) (
  mA (i := 72) (ok_dup (pc := 131) rfl rfl (by decide +kernel)) (
  mA (i := 73) (ok_gI (pc := 132) rfl (by decide +kernel) wd_678 inw_11 rfl rfl (by decide +kernel)) (
  mA (i := 74) (ok_ic (n := 1) (pc := 135) (by decide +kernel) rfl rfl (by decide +kernel)) (
  mA (i := 75) (ok_add (pc := 136) rfl rfl (by decide +kernel)) (
  mA (i := 76) (ok_pI (pc := 137) rfl (by decide +kernel) wd_678 inw_11 tyX10_ok nmX10 rfl (by decide +kernel) rfl rfl (by decide +kernel)) (
  mA (i := 77) (ok_ic (n := 1) (pc := 140) (by decide +kernel) rfl rfl (by decide +kernel)) (
  mA (i := 78) (ok_ist (pc := 141) (by decide +kernel) rfl rfl rfl (by decide +kernel)) (
  mA (i := 79) (ok_ild (pc := 143) rfl rfl (by decide +kernel)) (
  mA (i := 80) (ok_ald_n (f := 0) (pc := 145) rfl rfl rfl (by decide +kernel)) (
  mA (i := 81) (ok_gI (pc := 146) rfl (by decide +kernel) wd_633 inw_11 rfl rfl (by decide +kernel)) (
  mA (i := 82) (ok_cge (off := 20) (pc := 149) (tgt := 169) rfl rfl rfl (by decide +kernel) (by decide +kernel)) (
  mA (i := 83) (ok_ald_n (f := 0) (pc := 152) rfl rfl rfl (by decide +kernel)) (
  mA (i := 84) (ok_ald_n (f := 0) (pc := 153) rfl rfl rfl (by decide +kernel)) (
  mA (i := 85) (ok_gP (pc := 154) rfl (by decide +kernel) wd_580 inw_11 rfl rfl (by decide +kernel)) (
  mA (i := 86) (ok_ild (pc := 157) rfl rfl (by decide +kernel)) (
  mA (i := 87) (ok_iald (pc := 159) rfl rfl (by decide +kernel)) (
  mA (i := 88) (ok_callV (pc := 160) (can_V cal_N_puts (by decide +kernel) rfl (by decide +kernel) rfl wd_679 wd_680 wd_681 wd_605 (by decide +kernel)) rfl rfl) (
  mA (i := 89) (ok_inc (z := 1) (pc := 163) (by decide +kernel) (by decide +kernel) rfl rfl rfl (by decide +kernel)) (
  mA (i := 90) (ok_goto (off := (-23)) (pc := 166) (tgt := 143) rfl rfl (by decide +kernel) (by decide +kernel)) (
  mA (i := 91) (ok_inc (z := 1) (pc := 169) (by decide +kernel) (by decide +kernel) rfl rfl rfl (by decide +kernel)) (
  mA (i := 92) (ok_goto (off := (-77)) (pc := 172) (tgt := 95) rfl rfl (by decide +kernel) (by decide +kernel)) (
  mA (i := 93) (ok_ald_n (f := 0) (pc := 175) rfl rfl rfl (by decide +kernel)) (
  mA (i := 94) (ok_gI (pc := 176) rfl (by decide +kernel) wd_674 inw_11 rfl rfl (by decide +kernel)) (
  mA (i := 95) (ok_bi (n := 30) (pc := 179) (by decide +kernel) rfl rfl (by decide +kernel)) (
  mA (i := 96) (ok_cgt (off := 10) (pc := 181) (tgt := 191) rfl rfl rfl (by decide +kernel) (by decide +kernel)) (
  mA (i := 97) (ok_ald_n (f := 0) (pc := 184) rfl rfl rfl (by decide +kernel)) (
  mA (i := 98) (ok_callI (pc := 185) (can_V cal_N_isShallow (by decide +kernel) rfl (by decide +kernel) rfl wd_682 wd_683 wd_684 wd_605 (by decide +kernel)) rfl rfl) (
  mA (i := 99) (ok_ifne (off := 6) (pc := 188) (tgt := 194) rfl rfl rfl (by decide +kernel) (by decide +kernel)) (
  mA (i := 100) (ok_bi (n := (-4)) (pc := 191) (by decide +kernel) rfl rfl (by decide +kernel)) (
  mA (i := 101) (ok_iret (pc := 193) rfl rfl (by decide +kernel)) (
  mA (i := 102) (ok_ic (n := 0) (pc := 194) (by decide +kernel) rfl rfl (by decide +kernel)) (
  mA (i := 103) (ok_ist_n (f := 3) (pc := 195) rfl (by decide +kernel) rfl rfl rfl (by decide +kernel)) (
  mA (i := 104) (ok_ild_n (f := 3) (pc := 196) rfl rfl rfl (by decide +kernel)) (
  mA (i := 105) (ok_ald_n (f := 0) (pc := 197) rfl rfl rfl (by decide +kernel)) (
  mA (i := 106) (ok_gI (pc := 198) rfl (by decide +kernel) wd_674 inw_11 rfl rfl (by decide +kernel)) (
  mA (i := 107) (ok_cge (off := 21) (pc := 201) (tgt := 222) rfl rfl rfl (by decide +kernel) (by decide +kernel)) (
  mA (i := 108) (ok_ald_n (f := 0) (pc := 204) rfl rfl rfl (by decide +kernel)) (
  mA (i := 109) (ok_gP (pc := 205) rfl (by decide +kernel) wd_580 inw_11 rfl rfl (by decide +kernel)) (
  mA (i := 110) (ok_ild_n (f := 3) (pc := 208) rfl rfl rfl (by decide +kernel)) (
  mA (i := 111) (ok_ald_n (f := 0) (pc := 209) rfl rfl rfl (by decide +kernel)) (
  mA (i := 112) (ok_gP (pc := 210) rfl (by decide +kernel) wd_582 inw_11 rfl rfl (by decide +kernel)) (
  mA (i := 113) (ok_ild_n (f := 3) (pc := 213) rfl rfl rfl (by decide +kernel)) (
  mA (i := 114) (ok_iald (pc := 214) rfl rfl (by decide +kernel)) (
  mA (i := 115) (ok_iast (pc := 215) rfl rfl (by decide +kernel)) (
  mA (i := 116) (ok_inc (z := 1) (pc := 216) (by decide +kernel) (by decide +kernel) rfl rfl rfl (by decide +kernel)) (
  mA (i := 117) (ok_goto (off := (-23)) (pc := 219) (tgt := 196) rfl rfl (by decide +kernel) (by decide +kernel)) (
  mA (i := 118) (ok_ald_n (f := 0) (pc := 222) rfl rfl rfl (by decide +kernel)) (
  mA (i := 119) (ok_ald_n (f := 0) (pc := 223) rfl rfl rfl (by decide +kernel)) (
  ok_N_apply_t120))))))))))))))))))))))))))))))))))))))))))))))))))))))))))))
set_option maxRecDepth 20000 in
theorem ok_N_apply : mAll (mOk RX10 cX10_apply 5 true false (some .int) (mnat p_N_apply)) 0 k_N_apply := mA (i := 0) (ok_ald_n (f := 0) (pc := 0) rfl rfl rfl (by decide +kernel)) (
  mA (i := 1) (ok_ic (n := 0) (pc := 1) (by decide +kernel) rfl rfl (by decide +kernel)) (
  mA (i := 2) (ok_pI (pc := 2) rfl (by decide +kernel) wd_618 inw_11 tyX10_ok nmX10 rfl (by decide +kernel) rfl rfl (by decide +kernel)) (
  mA (i := 3) (ok_ild_n (f := 1) (pc := 5) rfl rfl rfl (by decide +kernel)) (
  mA (i := 4) (ok_i2l (pc := 6) rfl rfl (by decide +kernel)) (
  mA (i := 5) (ok_lc (n := 0) (pc := 7) (by decide +kernel) rfl rfl (by decide +kernel)) (
  mA (i := 6) (ok_ald_n (f := 0) (pc := 8) rfl rfl rfl (by decide +kernel)) (
  mA (i := 7) (ok_gI (pc := 9) rfl (by decide +kernel) wd_619 inw_11 rfl rfl (by decide +kernel)) (
  mA (i := 8) (ok_i2l (pc := 12) rfl rfl (by decide +kernel)) (
  mA (i := 9) (ok_callI (pc := 13) (can_S cal_N_within (by decide +kernel) wd_606 wd_604 wd_605 (by decide +kernel)) rfl rfl) (
  mA (i := 10) (ok_ifne (off := 6) (pc := 16) (tgt := 22) rfl rfl rfl (by decide +kernel) (by decide +kernel)) (
  mA (i := 11) (ok_bi (n := (-3)) (pc := 19) (by decide +kernel) rfl rfl (by decide +kernel)) (
  mA (i := 12) (ok_iret (pc := 21) rfl rfl (by decide +kernel)) (
  mA (i := 13) (ok_ald_n (f := 0) (pc := 22) rfl rfl rfl (by decide +kernel)) (
  mA (i := 14) (ok_ild_n (f := 1) (pc := 23) rfl rfl rfl (by decide +kernel)) (
  mA (i := 15) (ok_callV (pc := 24) (can_V cal_N_begins (by decide +kernel) rfl (by decide +kernel) rfl wd_650 wd_651 wd_652 wd_605 (by decide +kernel)) rfl rfl) (
  mA (i := 16) (ok_ald_n (f := 0) (pc := 27) rfl rfl rfl (by decide +kernel)) (
  mA (i := 17) (ok_callI (pc := 28) (can_V cal_N_see (by decide +kernel) rfl (by decide +kernel) rfl wd_624 wd_625 wd_626 wd_605 (by decide +kernel)) rfl rfl) (
  mA (i := 18) (ok_callI (pc := 31) (can_S cal_N_termCode (by decide +kernel) wd_636 wd_635 wd_605 (by decide +kernel)) rfl rfl) (
  mA (i := 19) (ok_ist_n (f := 2) (pc := 34) rfl (by decide +kernel) rfl rfl rfl (by decide +kernel)) (
  mA (i := 20) (ok_ild_n (f := 2) (pc := 35) rfl rfl rfl (by decide +kernel)) (
  mA (i := 21) (ok_bi (n := 20) (pc := 36) (by decide +kernel) rfl rfl (by decide +kernel)) (
  mA (i := 22) (ok_cge (off := 11) (pc := 38) (tgt := 49) rfl rfl rfl (by decide +kernel) (by decide +kernel)) (
  mA (i := 23) (ok_ald_n (f := 0) (pc := 41) rfl rfl rfl (by decide +kernel)) (
  mA (i := 24) (ok_ic (n := 1) (pc := 42) (by decide +kernel) rfl rfl (by decide +kernel)) (
  mA (i := 25) (ok_callV (pc := 43) (can_V cal_N_fails (by decide +kernel) rfl (by decide +kernel) rfl wd_630 wd_631 wd_632 wd_605 (by decide +kernel)) rfl rfl) (
  mA (i := 26) (ok_goto (off := 8) (pc := 46) (tgt := 54) rfl rfl (by decide +kernel) (by decide +kernel)) (
  mA (i := 27) (ok_ald_n (f := 0) (pc := 49) rfl rfl rfl (by decide +kernel)) (
  mA (i := 28) (ok_ild_n (f := 2) (pc := 50) rfl rfl rfl (by decide +kernel)) (
  mA (i := 29) (ok_callV (pc := 51) (can_V cal_N_lays (by decide +kernel) rfl (by decide +kernel) rfl wd_637 wd_638 wd_639 wd_605 (by decide +kernel)) rfl rfl) (
  mA (i := 30) (ok_ald_n (f := 0) (pc := 54) rfl rfl rfl (by decide +kernel)) (
  mA (i := 31) (ok_bi (n := 61) (pc := 55) (by decide +kernel) rfl rfl (by decide +kernel)) (
  mA (i := 32) (ok_callV (pc := 57) (can_V cal_N_wants (by decide +kernel) rfl (by decide +kernel) rfl wd_643 wd_644 wd_645 wd_605 (by decide +kernel)) rfl rfl) (
  mA (i := 33) (ok_ald_n (f := 0) (pc := 60) rfl rfl rfl (by decide +kernel)) (
  mA (i := 34) (ok_callV (pc := 61) (can_V cal_N_readTerm (by decide +kernel) rfl (by decide +kernel) rfl wd_646 wd_647 wd_648 wd_605 (by decide +kernel)) rfl rfl) (
  mA (i := 35) (ok_ald_n (f := 0) (pc := 64) rfl rfl rfl (by decide +kernel)) (
  mA (i := 36) (ok_callV (pc := 65) (can_V cal_N_ends (by decide +kernel) rfl (by decide +kernel) rfl wd_656 wd_657 wd_658 wd_605 (by decide +kernel)) rfl rfl) (
  mA (i := 37) (ok_ald_n (f := 0) (pc := 68) rfl rfl rfl (by decide +kernel)) (
  mA (i := 38) (ok_gI (pc := 69) rfl (by decide +kernel) wd_622 inw_11 rfl rfl (by decide +kernel)) (
  mA (i := 39) (ok_ifeq (off := 11) (pc := 72) (tgt := 83) rfl rfl rfl (by decide +kernel) (by decide +kernel)) (
  mA (i := 40) (ok_bi (n := (-30)) (pc := 75) (by decide +kernel) rfl rfl (by decide +kernel)) (
  mA (i := 41) (ok_ald_n (f := 0) (pc := 77) rfl rfl rfl (by decide +kernel)) (
  mA (i := 42) (ok_gI (pc := 78) rfl (by decide +kernel) wd_622 inw_11 rfl rfl (by decide +kernel)) (
  mA (i := 43) (ok_sub (pc := 81) rfl rfl (by decide +kernel)) (
  mA (i := 44) (ok_iret (pc := 82) rfl rfl (by decide +kernel)) (
  mA (i := 45) (ok_ald_n (f := 0) (pc := 83) rfl rfl rfl (by decide +kernel)) (
  mA (i := 46) (ok_ic (n := 0) (pc := 84) (by decide +kernel) rfl rfl (by decide +kernel)) (
  mA (i := 47) (ok_pI (pc := 85) rfl (by decide +kernel) wd_674 inw_11 tyX10_ok nmX10 rfl (by decide +kernel) rfl rfl (by decide +kernel)) (
  mA (i := 48) (ok_ald_n (f := 0) (pc := 88) rfl rfl rfl (by decide +kernel)) (
  mA (i := 49) (ok_ic (n := 0) (pc := 89) (by decide +kernel) rfl rfl (by decide +kernel)) (
  mA (i := 50) (ok_pI (pc := 90) rfl (by decide +kernel) wd_678 inw_11 tyX10_ok nmX10 rfl (by decide +kernel) rfl rfl (by decide +kernel)) (
  mA (i := 51) (ok_ic (n := 0) (pc := 93) (by decide +kernel) rfl rfl (by decide +kernel)) (
  mA (i := 52) (ok_ist_n (f := 3) (pc := 94) rfl (by decide +kernel) rfl rfl rfl (by decide +kernel)) (
  mA (i := 53) (ok_ild_n (f := 3) (pc := 95) rfl rfl rfl (by decide +kernel)) (
  mA (i := 54) (ok_ald_n (f := 0) (pc := 96) rfl rfl rfl (by decide +kernel)) (
  mA (i := 55) (ok_bi (n := 24) (pc := 97) (by decide +kernel) rfl rfl (by decide +kernel)) (
  mA (i := 56) (ok_callI (pc := 99) (can_V cal_N_longOf (by decide +kernel) rfl (by decide +kernel) rfl wd_615 wd_616 wd_617 wd_605 (by decide +kernel)) rfl rfl) (
  mA (i := 57) (ok_cge (off := 73) (pc := 102) (tgt := 175) rfl rfl rfl (by decide +kernel) (by decide +kernel)) (
  mA (i := 58) (ok_ald_n (f := 0) (pc := 105) rfl rfl rfl (by decide +kernel)) (
  mA (i := 59) (ok_bi (n := 24) (pc := 106) (by decide +kernel) rfl rfl (by decide +kernel)) (
  ok_N_apply_t60))))))))))))))))))))))))))))))))))))))))))))))))))))))))))))
set_option maxRecDepth 20000 in
theorem ok_N_fault : mAll (mOk RX10 cX10_fault 2 true false (some .int) (mnat p_N_fault)) 0 k_N_fault := mA (i := 0) (ok_ald_n (f := 0) (pc := 0) rfl rfl rfl (by decide +kernel)) (
  mA (i := 1) (ok_ic (n := 0) (pc := 1) (by decide +kernel) rfl rfl (by decide +kernel)) (
  mA (i := 2) (ok_pI (pc := 2) rfl (by decide +kernel) wd_618 inw_11 tyX10_ok nmX10 rfl (by decide +kernel) rfl rfl (by decide +kernel)) (
  mA (i := 3) (ok_ild_n (f := 1) (pc := 5) rfl rfl rfl (by decide +kernel)) (
  mA (i := 4) (ok_ifne (off := 10) (pc := 6) (tgt := 16) rfl rfl rfl (by decide +kernel) (by decide +kernel)) (
  mA (i := 5) (ok_ald_n (f := 0) (pc := 9) rfl rfl rfl (by decide +kernel)) (
  mA (i := 6) (ok_gI (pc := 10) rfl (by decide +kernel) wd_649 inw_11 rfl rfl (by decide +kernel)) (
  mA (i := 7) (ok_goto (off := 16) (pc := 13) (tgt := 29) rfl rfl (by decide +kernel) (by decide +kernel)) (
  mA (i := 8) (ok_ild_n (f := 1) (pc := 16) rfl rfl rfl (by decide +kernel)) (
  mA (i := 9) (ok_ic (n := 1) (pc := 17) (by decide +kernel) rfl rfl (by decide +kernel)) (
  mA (i := 10) (ok_cne (off := 10) (pc := 18) (tgt := 28) rfl rfl rfl (by decide +kernel) (by decide +kernel)) (
  mA (i := 11) (ok_ald_n (f := 0) (pc := 21) rfl rfl rfl (by decide +kernel)) (
  mA (i := 12) (ok_gI (pc := 22) rfl (by decide +kernel) wd_581 inw_11 rfl rfl (by decide +kernel)) (
  mA (i := 13) (ok_goto (off := 4) (pc := 25) (tgt := 29) rfl rfl (by decide +kernel) (by decide +kernel)) (
  mA (i := 14) (ok_ic (n := (-1)) (pc := 28) (by decide +kernel) rfl rfl (by decide +kernel)) (
  mA (i := 15) (ok_iret (pc := 29) rfl rfl (by decide +kernel)) (
  mZ))))))))))))))))
set_option maxRecDepth 20000 in
theorem ok_N_copies : mAll (mOk RX10 cX10_copies 4 true false none (mnat p_N_copies)) 0 k_N_copies := mA (i := 0) (ok_ic (n := 0) (pc := 0) (by decide +kernel) rfl rfl (by decide +kernel)) (
  mA (i := 1) (ok_ist_n (f := 3) (pc := 1) rfl (by decide +kernel) rfl rfl rfl (by decide +kernel)) (
  mA (i := 2) (ok_ild_n (f := 3) (pc := 2) rfl rfl rfl (by decide +kernel)) (
  mA (i := 3) (ok_bi (n := 32) (pc := 3) (by decide +kernel) rfl rfl (by decide +kernel)) (
  mA (i := 4) (ok_cge (off := 31) (pc := 5) (tgt := 36) rfl rfl rfl (by decide +kernel) (by decide +kernel)) (
  mA (i := 5) (ok_ald_n (f := 0) (pc := 8) rfl rfl rfl (by decide +kernel)) (
  mA (i := 6) (ok_gP (pc := 9) rfl (by decide +kernel) wd_575 inw_11 rfl rfl (by decide +kernel)) (
  mA (i := 7) (ok_bi (n := 32) (pc := 12) (by decide +kernel) rfl rfl (by decide +kernel)) (
  mA (i := 8) (ok_ild_n (f := 2) (pc := 14) rfl rfl rfl (by decide +kernel)) (
  mA (i := 9) (ok_mul (pc := 15) rfl rfl (by decide +kernel)) (
  mA (i := 10) (ok_ild_n (f := 3) (pc := 16) rfl rfl rfl (by decide +kernel)) (
  mA (i := 11) (ok_add (pc := 17) rfl rfl (by decide +kernel)) (
  mA (i := 12) (ok_ald_n (f := 0) (pc := 18) rfl rfl rfl (by decide +kernel)) (
  mA (i := 13) (ok_gP (pc := 19) rfl (by decide +kernel) wd_575 inw_11 rfl rfl (by decide +kernel)) (
  mA (i := 14) (ok_bi (n := 32) (pc := 22) (by decide +kernel) rfl rfl (by decide +kernel)) (
  mA (i := 15) (ok_ild_n (f := 1) (pc := 24) rfl rfl rfl (by decide +kernel)) (
  mA (i := 16) (ok_mul (pc := 25) rfl rfl (by decide +kernel)) (
  mA (i := 17) (ok_ild_n (f := 3) (pc := 26) rfl rfl rfl (by decide +kernel)) (
  mA (i := 18) (ok_add (pc := 27) rfl rfl (by decide +kernel)) (
  mA (i := 19) (ok_iald (pc := 28) rfl rfl (by decide +kernel)) (
  mA (i := 20) (ok_iast (pc := 29) rfl rfl (by decide +kernel)) (
  mA (i := 21) (ok_inc (z := 1) (pc := 30) (by decide +kernel) (by decide +kernel) rfl rfl rfl (by decide +kernel)) (
  mA (i := 22) (ok_goto (off := (-31)) (pc := 33) (tgt := 2) rfl rfl (by decide +kernel) (by decide +kernel)) (
  mA (i := 23) (ok_vret (pc := 36) rfl rfl (by decide +kernel)) (
  mZ))))))))))))))))))))))))
set_option maxRecDepth 20000 in
theorem ok_N_take : mAll (mOk RX10 cX10_take 2 true false (some .int) (mnat p_N_take)) 0 k_N_take := mA (i := 0) (ok_ald_n (f := 0) (pc := 0) rfl rfl rfl (by decide +kernel)) (
  mA (i := 1) (ok_ic (n := 0) (pc := 1) (by decide +kernel) rfl rfl (by decide +kernel)) (
  mA (i := 2) (ok_pI (pc := 2) rfl (by decide +kernel) wd_618 inw_11 tyX10_ok nmX10 rfl (by decide +kernel) rfl rfl (by decide +kernel)) (
  mA (i := 3) (ok_ald_n (f := 0) (pc := 5) rfl rfl rfl (by decide +kernel)) (
  mA (i := 4) (ok_ild_n (f := 1) (pc := 6) rfl rfl rfl (by decide +kernel)) (
  mA (i := 5) (ok_callI (pc := 7) (can_V cal_N_isClause (by decide +kernel) rfl (by decide +kernel) rfl wd_607 wd_608 wd_609 wd_605 (by decide +kernel)) rfl rfl) (
  mA (i := 6) (ok_ifne (off := 6) (pc := 10) (tgt := 16) rfl rfl rfl (by decide +kernel) (by decide +kernel)) (
  mA (i := 7) (ok_bi (n := (-2)) (pc := 13) (by decide +kernel) rfl rfl (by decide +kernel)) (
  mA (i := 8) (ok_iret (pc := 15) rfl rfl (by decide +kernel)) (
  mA (i := 9) (ok_ald_n (f := 0) (pc := 16) rfl rfl rfl (by decide +kernel)) (
  mA (i := 10) (ok_ild_n (f := 1) (pc := 17) rfl rfl rfl (by decide +kernel)) (
  mA (i := 11) (ok_bi (n := 24) (pc := 18) (by decide +kernel) rfl rfl (by decide +kernel)) (
  mA (i := 12) (ok_callV (pc := 20) (can_V cal_N_copies (by decide +kernel) rfl (by decide +kernel) rfl wd_685 wd_686 wd_687 wd_605 (by decide +kernel)) rfl rfl) (
  mA (i := 13) (ok_ald_n (f := 0) (pc := 23) rfl rfl rfl (by decide +kernel)) (
  mA (i := 14) (ok_bi (n := 24) (pc := 24) (by decide +kernel) rfl rfl (by decide +kernel)) (
  mA (i := 15) (ok_callI (pc := 26) (can_V cal_N_literalMany (by decide +kernel) rfl (by decide +kernel) rfl wd_671 wd_672 wd_673 wd_605 (by decide +kernel)) rfl rfl) (
  mA (i := 16) (ok_iret (pc := 29) rfl rfl (by decide +kernel)) (
  mZ)))))))))))))))))
set_option maxRecDepth 20000 in
theorem ok_N_keep : mAll (mOk RX10 cX10_keep 2 true false (some .int) (mnat p_N_keep)) 0 k_N_keep := mA (i := 0) (ok_ald_n (f := 0) (pc := 0) rfl rfl rfl (by decide +kernel)) (
  mA (i := 1) (ok_ic (n := 0) (pc := 1) (by decide +kernel) rfl rfl (by decide +kernel)) (
  mA (i := 2) (ok_pI (pc := 2) rfl (by decide +kernel) wd_618 inw_11 tyX10_ok nmX10 rfl (by decide +kernel) rfl rfl (by decide +kernel)) (
  mA (i := 3) (ok_ald_n (f := 0) (pc := 5) rfl rfl rfl (by decide +kernel)) (
  mA (i := 4) (ok_callI (pc := 6) (can_V cal_N_lowestFree (by decide +kernel) rfl (by decide +kernel) rfl wd_659 wd_660 wd_661 wd_605 (by decide +kernel)) rfl rfl) (
  mA (i := 5) (ok_ist_n (f := 1) (pc := 9) rfl (by decide +kernel) rfl rfl rfl (by decide +kernel)) (
  mA (i := 6) (ok_ild_n (f := 1) (pc := 10) rfl rfl rfl (by decide +kernel)) (
  mA (i := 7) (ok_bi (n := 24) (pc := 11) (by decide +kernel) rfl rfl (by decide +kernel)) (
  mA (i := 8) (ok_cne (off := 6) (pc := 13) (tgt := 19) rfl rfl rfl (by decide +kernel) (by decide +kernel)) (
  mA (i := 9) (ok_bi (n := (-4)) (pc := 16) (by decide +kernel) rfl rfl (by decide +kernel)) (
  mA (i := 10) (ok_iret (pc := 18) rfl rfl (by decide +kernel)) (
  mA (i := 11) (ok_ald_n (f := 0) (pc := 19) rfl rfl rfl (by decide +kernel)) (
  mA (i := 12) (ok_callV (pc := 20) (can_V cal_N_notes (by decide +kernel) rfl (by decide +kernel) rfl wd_665 wd_666 wd_667 wd_605 (by decide +kernel)) rfl rfl) (
  mA (i := 13) (ok_ald_n (f := 0) (pc := 23) rfl rfl rfl (by decide +kernel)) (
  mA (i := 14) (ok_bi (n := 24) (pc := 24) (by decide +kernel) rfl rfl (by decide +kernel)) (
  mA (i := 15) (ok_ild_n (f := 1) (pc := 26) rfl rfl rfl (by decide +kernel)) (
  mA (i := 16) (ok_callV (pc := 27) (can_V cal_N_copies (by decide +kernel) rfl (by decide +kernel) rfl wd_685 wd_686 wd_687 wd_605 (by decide +kernel)) rfl rfl) (
  mA (i := 17) (ok_ild_n (f := 1) (pc := 30) rfl rfl rfl (by decide +kernel)) (
  mA (i := 18) (ok_iret (pc := 31) rfl rfl (by decide +kernel)) (
  mZ)))))))))))))))))))
set_option maxRecDepth 20000 in
theorem ok_N_goes : mAll (mOk RX10 cX10_goes 3 true false none (mnat p_N_goes)) 0 k_N_goes := mA (i := 0) (ok_ic (n := 0) (pc := 0) (by decide +kernel) rfl rfl (by decide +kernel)) (
  mA (i := 1) (ok_ist_n (f := 2) (pc := 1) rfl (by decide +kernel) rfl rfl rfl (by decide +kernel)) (
  mA (i := 2) (ok_ild_n (f := 2) (pc := 2) rfl rfl rfl (by decide +kernel)) (
  mA (i := 3) (ok_bi (n := 32) (pc := 3) (by decide +kernel) rfl rfl (by decide +kernel)) (
  mA (i := 4) (ok_cge (off := 21) (pc := 5) (tgt := 26) rfl rfl rfl (by decide +kernel) (by decide +kernel)) (
  mA (i := 5) (ok_ald_n (f := 0) (pc := 8) rfl rfl rfl (by decide +kernel)) (
  mA (i := 6) (ok_gP (pc := 9) rfl (by decide +kernel) wd_575 inw_11 rfl rfl (by decide +kernel)) (
  mA (i := 7) (ok_bi (n := 32) (pc := 12) (by decide +kernel) rfl rfl (by decide +kernel)) (
  mA (i := 8) (ok_ild_n (f := 1) (pc := 14) rfl rfl rfl (by decide +kernel)) (
  mA (i := 9) (ok_mul (pc := 15) rfl rfl (by decide +kernel)) (
  mA (i := 10) (ok_ild_n (f := 2) (pc := 16) rfl rfl rfl (by decide +kernel)) (
  mA (i := 11) (ok_add (pc := 17) rfl rfl (by decide +kernel)) (
  mA (i := 12) (ok_ic (n := 0) (pc := 18) (by decide +kernel) rfl rfl (by decide +kernel)) (
  mA (i := 13) (ok_iast (pc := 19) rfl rfl (by decide +kernel)) (
  mA (i := 14) (ok_inc (z := 1) (pc := 20) (by decide +kernel) (by decide +kernel) rfl rfl rfl (by decide +kernel)) (
  mA (i := 15) (ok_goto (off := (-21)) (pc := 23) (tgt := 2) rfl rfl (by decide +kernel) (by decide +kernel)) (
  mA (i := 16) (ok_vret (pc := 26) rfl rfl (by decide +kernel)) (
  mZ)))))))))))))))))
set_option maxRecDepth 20000 in
theorem ok_N_remove : mAll (mOk RX10 cX10_remove 2 true false (some .int) (mnat p_N_remove)) 0 k_N_remove := mA (i := 0) (ok_ald_n (f := 0) (pc := 0) rfl rfl rfl (by decide +kernel)) (
  mA (i := 1) (ok_ic (n := 0) (pc := 1) (by decide +kernel) rfl rfl (by decide +kernel)) (
  mA (i := 2) (ok_pI (pc := 2) rfl (by decide +kernel) wd_618 inw_11 tyX10_ok nmX10 rfl (by decide +kernel) rfl rfl (by decide +kernel)) (
  mA (i := 3) (ok_ald_n (f := 0) (pc := 5) rfl rfl rfl (by decide +kernel)) (
  mA (i := 4) (ok_ild_n (f := 1) (pc := 6) rfl rfl rfl (by decide +kernel)) (
  mA (i := 5) (ok_callI (pc := 7) (can_V cal_N_isKept (by decide +kernel) rfl (by decide +kernel) rfl wd_688 wd_689 wd_690 wd_605 (by decide +kernel)) rfl rfl) (
  mA (i := 6) (ok_ifne (off := 6) (pc := 10) (tgt := 16) rfl rfl rfl (by decide +kernel) (by decide +kernel)) (
  mA (i := 7) (ok_bi (n := (-2)) (pc := 13) (by decide +kernel) rfl rfl (by decide +kernel)) (
  mA (i := 8) (ok_iret (pc := 15) rfl rfl (by decide +kernel)) (
  mA (i := 9) (ok_ald_n (f := 0) (pc := 16) rfl rfl rfl (by decide +kernel)) (
  mA (i := 10) (ok_callV (pc := 17) (can_V cal_N_notes (by decide +kernel) rfl (by decide +kernel) rfl wd_665 wd_666 wd_667 wd_605 (by decide +kernel)) rfl rfl) (
  mA (i := 11) (ok_ald_n (f := 0) (pc := 20) rfl rfl rfl (by decide +kernel)) (
  mA (i := 12) (ok_ild_n (f := 1) (pc := 21) rfl rfl rfl (by decide +kernel)) (
  mA (i := 13) (ok_callV (pc := 22) (can_V cal_N_goes (by decide +kernel) rfl (by decide +kernel) rfl wd_691 wd_692 wd_693 wd_605 (by decide +kernel)) rfl rfl) (
  mA (i := 14) (ok_ald_n (f := 0) (pc := 25) rfl rfl rfl (by decide +kernel)) (
  mA (i := 15) (ok_callI (pc := 26) (can_V cal_N_keptMany (by decide +kernel) rfl (by decide +kernel) rfl wd_694 wd_695 wd_696 wd_605 (by decide +kernel)) rfl rfl) (
  mA (i := 16) (ok_iret (pc := 29) rfl rfl (by decide +kernel)) (
  mZ)))))))))))))))))
set_option maxRecDepth 20000 in
theorem ok_N_notes : mAll (mOk RX10 cX10_notes 2 true false none (mnat p_N_notes)) 0 k_N_notes := mA (i := 0) (ok_ald_n (f := 0) (pc := 0) rfl rfl rfl (by decide +kernel)) (
  mA (i := 1) (ok_gI (pc := 1) rfl (by decide +kernel) wd_697 inw_11 rfl rfl (by decide +kernel)) (
  mA (i := 2) (ok_bi (n := 10) (pc := 4) (by decide +kernel) rfl rfl (by decide +kernel)) (
  mA (i := 3) (ok_cne (off := 44) (pc := 6) (tgt := 50) rfl rfl rfl (by decide +kernel) (by decide +kernel)) (
  mA (i := 4) (ok_ic (n := 0) (pc := 9) (by decide +kernel) rfl rfl (by decide +kernel)) (
  mA (i := 5) (ok_ist_n (f := 1) (pc := 10) rfl (by decide +kernel) rfl rfl rfl (by decide +kernel)) (
  mA (i := 6) (ok_ild_n (f := 1) (pc := 11) rfl rfl rfl (by decide +kernel)) (
  mA (i := 7) (ok_si (n := 7281) (pc := 12) (by decide +kernel) rfl rfl (by decide +kernel)) (
  mA (i := 8) (ok_cge (off := 25) (pc := 15) (tgt := 40) rfl rfl rfl (by decide +kernel) (by decide +kernel)) (
  mA (i := 9) (ok_ald_n (f := 0) (pc := 18) rfl rfl rfl (by decide +kernel)) (
  mA (i := 10) (ok_gP (pc := 19) rfl (by decide +kernel) wd_576 inw_11 rfl rfl (by decide +kernel)) (
  mA (i := 11) (ok_ild_n (f := 1) (pc := 22) rfl rfl rfl (by decide +kernel)) (
  mA (i := 12) (ok_ald_n (f := 0) (pc := 23) rfl rfl rfl (by decide +kernel)) (
  mA (i := 13) (ok_gP (pc := 24) rfl (by decide +kernel) wd_576 inw_11 rfl rfl (by decide +kernel)) (
  mA (i := 14) (ok_si (n := 809) (pc := 27) (by decide +kernel) rfl rfl (by decide +kernel)) (
  mA (i := 15) (ok_ild_n (f := 1) (pc := 30) rfl rfl rfl (by decide +kernel)) (
  mA (i := 16) (ok_add (pc := 31) rfl rfl (by decide +kernel)) (
  mA (i := 17) (ok_iald (pc := 32) rfl rfl (by decide +kernel)) (
  mA (i := 18) (ok_iast (pc := 33) rfl rfl (by decide +kernel)) (
  mA (i := 19) (ok_inc (z := 1) (pc := 34) (by decide +kernel) (by decide +kernel) rfl rfl rfl (by decide +kernel)) (
  mA (i := 20) (ok_goto (off := (-26)) (pc := 37) (tgt := 11) rfl rfl (by decide +kernel) (by decide +kernel)) (
  mA (i := 21) (ok_ald_n (f := 0) (pc := 40) rfl rfl rfl (by decide +kernel)) (
  mA (i := 22) (ok_dup (pc := 41) rfl rfl (by decide +kernel)) (
  mA (i := 23) (ok_gI (pc := 42) rfl (by decide +kernel) wd_697 inw_11 rfl rfl (by decide +kernel)) (
  mA (i := 24) (ok_ic (n := 1) (pc := 45) (by decide +kernel) rfl rfl (by decide +kernel)) (
  mA (i := 25) (ok_sub (pc := 46) rfl rfl (by decide +kernel)) (
  mA (i := 26) (ok_pI (pc := 47) rfl (by decide +kernel) wd_697 inw_11 tyX10_ok nmX10 rfl (by decide +kernel) rfl rfl (by decide +kernel)) (
  mA (i := 27) (ok_ic (n := 0) (pc := 50) (by decide +kernel) rfl rfl (by decide +kernel)) (
  mA (i := 28) (ok_ist_n (f := 1) (pc := 51) rfl (by decide +kernel) rfl rfl rfl (by decide +kernel)) (
  mA (i := 29) (ok_ild_n (f := 1) (pc := 52) rfl rfl rfl (by decide +kernel)) (
  mA (i := 30) (ok_si (n := 809) (pc := 53) (by decide +kernel) rfl rfl (by decide +kernel)) (
  mA (i := 31) (ok_cge (off := 30) (pc := 56) (tgt := 86) rfl rfl rfl (by decide +kernel) (by decide +kernel)) (
  mA (i := 32) (ok_ald_n (f := 0) (pc := 59) rfl rfl rfl (by decide +kernel)) (
  mA (i := 33) (ok_gP (pc := 60) rfl (by decide +kernel) wd_576 inw_11 rfl rfl (by decide +kernel)) (
  mA (i := 34) (ok_si (n := 809) (pc := 63) (by decide +kernel) rfl rfl (by decide +kernel)) (
  mA (i := 35) (ok_ald_n (f := 0) (pc := 66) rfl rfl rfl (by decide +kernel)) (
  mA (i := 36) (ok_gI (pc := 67) rfl (by decide +kernel) wd_697 inw_11 rfl rfl (by decide +kernel)) (
  mA (i := 37) (ok_mul (pc := 70) rfl rfl (by decide +kernel)) (
  mA (i := 38) (ok_ild_n (f := 1) (pc := 71) rfl rfl rfl (by decide +kernel)) (
  mA (i := 39) (ok_add (pc := 72) rfl rfl (by decide +kernel)) (
  mA (i := 40) (ok_ald_n (f := 0) (pc := 73) rfl rfl rfl (by decide +kernel)) (
  mA (i := 41) (ok_gP (pc := 74) rfl (by decide +kernel) wd_575 inw_11 rfl rfl (by decide +kernel)) (
  mA (i := 42) (ok_ild_n (f := 1) (pc := 77) rfl rfl rfl (by decide +kernel)) (
  mA (i := 43) (ok_iald (pc := 78) rfl rfl (by decide +kernel)) (
  mA (i := 44) (ok_iast (pc := 79) rfl rfl (by decide +kernel)) (
  mA (i := 45) (ok_inc (z := 1) (pc := 80) (by decide +kernel) (by decide +kernel) rfl rfl rfl (by decide +kernel)) (
  mA (i := 46) (ok_goto (off := (-31)) (pc := 83) (tgt := 52) rfl rfl (by decide +kernel) (by decide +kernel)) (
  mA (i := 47) (ok_ald_n (f := 0) (pc := 86) rfl rfl rfl (by decide +kernel)) (
  mA (i := 48) (ok_dup (pc := 87) rfl rfl (by decide +kernel)) (
  mA (i := 49) (ok_gI (pc := 88) rfl (by decide +kernel) wd_697 inw_11 rfl rfl (by decide +kernel)) (
  mA (i := 50) (ok_ic (n := 1) (pc := 91) (by decide +kernel) rfl rfl (by decide +kernel)) (
  mA (i := 51) (ok_add (pc := 92) rfl rfl (by decide +kernel)) (
  mA (i := 52) (ok_pI (pc := 93) rfl (by decide +kernel) wd_697 inw_11 tyX10_ok nmX10 rfl (by decide +kernel) rfl rfl (by decide +kernel)) (
  mA (i := 53) (ok_vret (pc := 96) rfl rfl (by decide +kernel)) (
  mZ))))))))))))))))))))))))))))))))))))))))))))))))))))))
set_option maxRecDepth 20000 in
theorem ok_N_undo : mAll (mOk RX10 cX10_undo 3 true false (some .int) (mnat p_N_undo)) 0 k_N_undo := mA (i := 0) (ok_ald_n (f := 0) (pc := 0) rfl rfl rfl (by decide +kernel)) (
  mA (i := 1) (ok_ic (n := 0) (pc := 1) (by decide +kernel) rfl rfl (by decide +kernel)) (
  mA (i := 2) (ok_pI (pc := 2) rfl (by decide +kernel) wd_618 inw_11 tyX10_ok nmX10 rfl (by decide +kernel) rfl rfl (by decide +kernel)) (
  mA (i := 3) (ok_ild_n (f := 1) (pc := 5) rfl rfl rfl (by decide +kernel)) (
  mA (i := 4) (ok_i2l (pc := 6) rfl rfl (by decide +kernel)) (
  mA (i := 5) (ok_lc (n := 1) (pc := 7) (by decide +kernel) rfl rfl (by decide +kernel)) (
  mA (i := 6) (ok_ldc2 (pc := 8) wd_698 rfl rfl (by decide +kernel)) (
  mA (i := 7) (ok_callI (pc := 11) (can_S cal_N_within (by decide +kernel) wd_606 wd_604 wd_605 (by decide +kernel)) rfl rfl) (
  mA (i := 8) (ok_ifeq (off := 11) (pc := 14) (tgt := 25) rfl rfl rfl (by decide +kernel) (by decide +kernel)) (
  mA (i := 9) (ok_ild_n (f := 1) (pc := 17) rfl rfl rfl (by decide +kernel)) (
  mA (i := 10) (ok_ald_n (f := 0) (pc := 18) rfl rfl rfl (by decide +kernel)) (
  mA (i := 11) (ok_gI (pc := 19) rfl (by decide +kernel) wd_697 inw_11 rfl rfl (by decide +kernel)) (
  mA (i := 12) (ok_cle (off := 6) (pc := 22) (tgt := 28) rfl rfl rfl (by decide +kernel) (by decide +kernel)) (
  mA (i := 13) (ok_bi (n := (-3)) (pc := 25) (by decide +kernel) rfl rfl (by decide +kernel)) (
  mA (i := 14) (ok_iret (pc := 27) rfl rfl (by decide +kernel)) (
  mA (i := 15) (ok_ald_n (f := 0) (pc := 28) rfl rfl rfl (by decide +kernel)) (
  mA (i := 16) (ok_dup (pc := 29) rfl rfl (by decide +kernel)) (
  mA (i := 17) (ok_gI (pc := 30) rfl (by decide +kernel) wd_697 inw_11 rfl rfl (by decide +kernel)) (
  mA (i := 18) (ok_ild_n (f := 1) (pc := 33) rfl rfl rfl (by decide +kernel)) (
  mA (i := 19) (ok_sub (pc := 34) rfl rfl (by decide +kernel)) (
  mA (i := 20) (ok_pI (pc := 35) rfl (by decide +kernel) wd_697 inw_11 tyX10_ok nmX10 rfl (by decide +kernel) rfl rfl (by decide +kernel)) (
  mA (i := 21) (ok_ic (n := 0) (pc := 38) (by decide +kernel) rfl rfl (by decide +kernel)) (
  mA (i := 22) (ok_ist_n (f := 2) (pc := 39) rfl (by decide +kernel) rfl rfl rfl (by decide +kernel)) (
  mA (i := 23) (ok_ild_n (f := 2) (pc := 40) rfl rfl rfl (by decide +kernel)) (
  mA (i := 24) (ok_si (n := 809) (pc := 41) (by decide +kernel) rfl rfl (by decide +kernel)) (
  mA (i := 25) (ok_cge (off := 39) (pc := 44) (tgt := 83) rfl rfl rfl (by decide +kernel) (by decide +kernel)) (
  mA (i := 26) (ok_ild_n (f := 2) (pc := 47) rfl rfl rfl (by decide +kernel)) (
  mA (i := 27) (ok_bi (n := 32) (pc := 48) (by decide +kernel) rfl rfl (by decide +kernel)) (
  mA (i := 28) (ok_div (pc := 50) rfl rfl (by decide +kernel)) (
  mA (i := 29) (ok_bi (n := 24) (pc := 51) (by decide +kernel) rfl rfl (by decide +kernel)) (
  mA (i := 30) (ok_ceq (off := 24) (pc := 53) (tgt := 77) rfl rfl rfl (by decide +kernel) (by decide +kernel)) (
  mA (i := 31) (ok_ald_n (f := 0) (pc := 56) rfl rfl rfl (by decide +kernel)) (
  mA (i := 32) (ok_gP (pc := 57) rfl (by decide +kernel) wd_575 inw_11 rfl rfl (by decide +kernel)) (
  mA (i := 33) (ok_ild_n (f := 2) (pc := 60) rfl rfl rfl (by decide +kernel)) (
  mA (i := 34) (ok_ald_n (f := 0) (pc := 61) rfl rfl rfl (by decide +kernel)) (
  mA (i := 35) (ok_gP (pc := 62) rfl (by decide +kernel) wd_576 inw_11 rfl rfl (by decide +kernel)) (
  mA (i := 36) (ok_si (n := 809) (pc := 65) (by decide +kernel) rfl rfl (by decide +kernel)) (
  mA (i := 37) (ok_ald_n (f := 0) (pc := 68) rfl rfl rfl (by decide +kernel)) (
  mA (i := 38) (ok_gI (pc := 69) rfl (by decide +kernel) wd_697 inw_11 rfl rfl (by decide +kernel)) (
  mA (i := 39) (ok_mul (pc := 72) rfl rfl (by decide +kernel)) (
  mA (i := 40) (ok_ild_n (f := 2) (pc := 73) rfl rfl rfl (by decide +kernel)) (
  mA (i := 41) (ok_add (pc := 74) rfl rfl (by decide +kernel)) (
  mA (i := 42) (ok_iald (pc := 75) rfl rfl (by decide +kernel)) (
  mA (i := 43) (ok_iast (pc := 76) rfl rfl (by decide +kernel)) (
  mA (i := 44) (ok_inc (z := 1) (pc := 77) (by decide +kernel) (by decide +kernel) rfl rfl rfl (by decide +kernel)) (
  mA (i := 45) (ok_goto (off := (-40)) (pc := 80) (tgt := 40) rfl rfl (by decide +kernel) (by decide +kernel)) (
  mA (i := 46) (ok_ald_n (f := 0) (pc := 83) rfl rfl rfl (by decide +kernel)) (
  mA (i := 47) (ok_gI (pc := 84) rfl (by decide +kernel) wd_697 inw_11 rfl rfl (by decide +kernel)) (
  mA (i := 48) (ok_iret (pc := 87) rfl rfl (by decide +kernel)) (
  mZ)))))))))))))))))))))))))))))))))))))))))))))))))
set_option maxRecDepth 20000 in
theorem ok_N_image : mAll (mOk RX10 cX10_image 3 true false (some .int) (mnat p_N_image)) 0 k_N_image := mA (i := 0) (ok_ald_n (f := 0) (pc := 0) rfl rfl rfl (by decide +kernel)) (
  mA (i := 1) (ok_ic (n := 0) (pc := 1) (by decide +kernel) rfl rfl (by decide +kernel)) (
  mA (i := 2) (ok_pI (pc := 2) rfl (by decide +kernel) wd_618 inw_11 tyX10_ok nmX10 rfl (by decide +kernel) rfl rfl (by decide +kernel)) (
  mA (i := 3) (ok_ild_n (f := 1) (pc := 5) rfl rfl rfl (by decide +kernel)) (
  mA (i := 4) (ok_i2l (pc := 6) rfl rfl (by decide +kernel)) (
  mA (i := 5) (ok_lc (n := 0) (pc := 7) (by decide +kernel) rfl rfl (by decide +kernel)) (
  mA (i := 6) (ok_lc (n := 1) (pc := 8) (by decide +kernel) rfl rfl (by decide +kernel)) (
  mA (i := 7) (ok_callI (pc := 9) (can_S cal_N_within (by decide +kernel) wd_606 wd_604 wd_605 (by decide +kernel)) rfl rfl) (
  mA (i := 8) (ok_ifne (off := 6) (pc := 12) (tgt := 18) rfl rfl rfl (by decide +kernel) (by decide +kernel)) (
  mA (i := 9) (ok_bi (n := (-2)) (pc := 15) (by decide +kernel) rfl rfl (by decide +kernel)) (
  mA (i := 10) (ok_iret (pc := 17) rfl rfl (by decide +kernel)) (
  mA (i := 11) (ok_ic (n := 0) (pc := 18) (by decide +kernel) rfl rfl (by decide +kernel)) (
  mA (i := 12) (ok_ist_n (f := 2) (pc := 19) rfl (by decide +kernel) rfl rfl rfl (by decide +kernel)) (
  mA (i := 13) (ok_ild_n (f := 2) (pc := 20) rfl rfl rfl (by decide +kernel)) (
  mA (i := 14) (ok_si (n := 809) (pc := 21) (by decide +kernel) rfl rfl (by decide +kernel)) (
  mA (i := 15) (ok_cge (off := 29) (pc := 24) (tgt := 53) rfl rfl rfl (by decide +kernel) (by decide +kernel)) (
  mA (i := 16) (ok_ald_n (f := 0) (pc := 27) rfl rfl rfl (by decide +kernel)) (
  mA (i := 17) (ok_gP (pc := 28) rfl (by decide +kernel) wd_575 inw_11 rfl rfl (by decide +kernel)) (
  mA (i := 18) (ok_si (n := 809) (pc := 31) (by decide +kernel) rfl rfl (by decide +kernel)) (
  mA (i := 19) (ok_ild_n (f := 1) (pc := 34) rfl rfl rfl (by decide +kernel)) (
  mA (i := 20) (ok_ic (n := 1) (pc := 35) (by decide +kernel) rfl rfl (by decide +kernel)) (
  mA (i := 21) (ok_add (pc := 36) rfl rfl (by decide +kernel)) (
  mA (i := 22) (ok_mul (pc := 37) rfl rfl (by decide +kernel)) (
  mA (i := 23) (ok_ild_n (f := 2) (pc := 38) rfl rfl rfl (by decide +kernel)) (
  mA (i := 24) (ok_add (pc := 39) rfl rfl (by decide +kernel)) (
  mA (i := 25) (ok_ald_n (f := 0) (pc := 40) rfl rfl rfl (by decide +kernel)) (
  mA (i := 26) (ok_gP (pc := 41) rfl (by decide +kernel) wd_575 inw_11 rfl rfl (by decide +kernel)) (
  mA (i := 27) (ok_ild_n (f := 2) (pc := 44) rfl rfl rfl (by decide +kernel)) (
  mA (i := 28) (ok_iald (pc := 45) rfl rfl (by decide +kernel)) (
  mA (i := 29) (ok_iast (pc := 46) rfl rfl (by decide +kernel)) (
  mA (i := 30) (ok_inc (z := 1) (pc := 47) (by decide +kernel) (by decide +kernel) rfl rfl rfl (by decide +kernel)) (
  mA (i := 31) (ok_goto (off := (-30)) (pc := 50) (tgt := 20) rfl rfl (by decide +kernel) (by decide +kernel)) (
  mA (i := 32) (ok_ald_n (f := 0) (pc := 53) rfl rfl rfl (by decide +kernel)) (
  mA (i := 33) (ok_gP (pc := 54) rfl (by decide +kernel) wd_578 inw_11 rfl rfl (by decide +kernel)) (
  mA (i := 34) (ok_ild_n (f := 1) (pc := 57) rfl rfl rfl (by decide +kernel)) (
  mA (i := 35) (ok_ic (n := 1) (pc := 58) (by decide +kernel) rfl rfl (by decide +kernel)) (
  mA (i := 36) (ok_zast (pc := 59) rfl rfl (by decide +kernel)) (
  mA (i := 37) (ok_ic (n := 0) (pc := 60) (by decide +kernel) rfl rfl (by decide +kernel)) (
  mA (i := 38) (ok_iret (pc := 61) rfl rfl (by decide +kernel)) (
  mZ)))))))))))))))))))))))))))))))))))))))
set_option maxRecDepth 20000 in
theorem ok_N_restore : mAll (mOk RX10 cX10_restore 3 true false (some .int) (mnat p_N_restore)) 0 k_N_restore := mA (i := 0) (ok_ald_n (f := 0) (pc := 0) rfl rfl rfl (by decide +kernel)) (
  mA (i := 1) (ok_ic (n := 0) (pc := 1) (by decide +kernel) rfl rfl (by decide +kernel)) (
  mA (i := 2) (ok_pI (pc := 2) rfl (by decide +kernel) wd_618 inw_11 tyX10_ok nmX10 rfl (by decide +kernel) rfl rfl (by decide +kernel)) (
  mA (i := 3) (ok_ild_n (f := 1) (pc := 5) rfl rfl rfl (by decide +kernel)) (
  mA (i := 4) (ok_i2l (pc := 6) rfl rfl (by decide +kernel)) (
  mA (i := 5) (ok_lc (n := 0) (pc := 7) (by decide +kernel) rfl rfl (by decide +kernel)) (
  mA (i := 6) (ok_lc (n := 1) (pc := 8) (by decide +kernel) rfl rfl (by decide +kernel)) (
  mA (i := 7) (ok_callI (pc := 9) (can_S cal_N_within (by decide +kernel) wd_606 wd_604 wd_605 (by decide +kernel)) rfl rfl) (
  mA (i := 8) (ok_ifne (off := 6) (pc := 12) (tgt := 18) rfl rfl rfl (by decide +kernel) (by decide +kernel)) (
  mA (i := 9) (ok_bi (n := (-2)) (pc := 15) (by decide +kernel) rfl rfl (by decide +kernel)) (
  mA (i := 10) (ok_iret (pc := 17) rfl rfl (by decide +kernel)) (
  mA (i := 11) (ok_ald_n (f := 0) (pc := 18) rfl rfl rfl (by decide +kernel)) (
  mA (i := 12) (ok_gP (pc := 19) rfl (by decide +kernel) wd_578 inw_11 rfl rfl (by decide +kernel)) (
  mA (i := 13) (ok_ild_n (f := 1) (pc := 22) rfl rfl rfl (by decide +kernel)) (
  mA (i := 14) (ok_zald (pc := 23) rfl rfl (by decide +kernel)) (
  mA (i := 15) (ok_ifne (off := 6) (pc := 24) (tgt := 30) rfl rfl rfl (by decide +kernel) (by decide +kernel)) (
  mA (i := 16) (ok_bi (n := (-6)) (pc := 27) (by decide +kernel) rfl rfl (by decide +kernel)) (
  mA (i := 17) (ok_iret (pc := 29) rfl rfl (by decide +kernel)) (
  mA (i := 18) (ok_ic (n := 0) (pc := 30) (by decide +kernel) rfl rfl (by decide +kernel)) (
  mA (i := 19) (ok_ist_n (f := 2) (pc := 31) rfl (by decide +kernel) rfl rfl rfl (by decide +kernel)) (
  mA (i := 20) (ok_ild_n (f := 2) (pc := 32) rfl rfl rfl (by decide +kernel)) (
  mA (i := 21) (ok_si (n := 809) (pc := 33) (by decide +kernel) rfl rfl (by decide +kernel)) (
  mA (i := 22) (ok_cge (off := 29) (pc := 36) (tgt := 65) rfl rfl rfl (by decide +kernel) (by decide +kernel)) (
  mA (i := 23) (ok_ald_n (f := 0) (pc := 39) rfl rfl rfl (by decide +kernel)) (
  mA (i := 24) (ok_gP (pc := 40) rfl (by decide +kernel) wd_575 inw_11 rfl rfl (by decide +kernel)) (
  mA (i := 25) (ok_ild_n (f := 2) (pc := 43) rfl rfl rfl (by decide +kernel)) (
  mA (i := 26) (ok_ald_n (f := 0) (pc := 44) rfl rfl rfl (by decide +kernel)) (
  mA (i := 27) (ok_gP (pc := 45) rfl (by decide +kernel) wd_575 inw_11 rfl rfl (by decide +kernel)) (
  mA (i := 28) (ok_si (n := 809) (pc := 48) (by decide +kernel) rfl rfl (by decide +kernel)) (
  mA (i := 29) (ok_ild_n (f := 1) (pc := 51) rfl rfl rfl (by decide +kernel)) (
  mA (i := 30) (ok_ic (n := 1) (pc := 52) (by decide +kernel) rfl rfl (by decide +kernel)) (
  mA (i := 31) (ok_add (pc := 53) rfl rfl (by decide +kernel)) (
  mA (i := 32) (ok_mul (pc := 54) rfl rfl (by decide +kernel)) (
  mA (i := 33) (ok_ild_n (f := 2) (pc := 55) rfl rfl rfl (by decide +kernel)) (
  mA (i := 34) (ok_add (pc := 56) rfl rfl (by decide +kernel)) (
  mA (i := 35) (ok_iald (pc := 57) rfl rfl (by decide +kernel)) (
  mA (i := 36) (ok_iast (pc := 58) rfl rfl (by decide +kernel)) (
  mA (i := 37) (ok_inc (z := 1) (pc := 59) (by decide +kernel) (by decide +kernel) rfl rfl rfl (by decide +kernel)) (
  mA (i := 38) (ok_goto (off := (-30)) (pc := 62) (tgt := 32) rfl rfl (by decide +kernel) (by decide +kernel)) (
  mA (i := 39) (ok_ald_n (f := 0) (pc := 65) rfl rfl rfl (by decide +kernel)) (
  mA (i := 40) (ok_ic (n := 0) (pc := 66) (by decide +kernel) rfl rfl (by decide +kernel)) (
  mA (i := 41) (ok_pI (pc := 67) rfl (by decide +kernel) wd_697 inw_11 tyX10_ok nmX10 rfl (by decide +kernel) rfl rfl (by decide +kernel)) (
  mA (i := 42) (ok_ic (n := 0) (pc := 70) (by decide +kernel) rfl rfl (by decide +kernel)) (
  mA (i := 43) (ok_iret (pc := 71) rfl rfl (by decide +kernel)) (
  mZ))))))))))))))))))))))))))))))))))))))))))))
set_option maxRecDepth 20000 in
theorem ok_N_literals : mAll (mOk RX10 cX10_literals 2 true false (some .int) (mnat p_N_literals)) 0 k_N_literals := mA (i := 0) (ok_ald_n (f := 0) (pc := 0) rfl rfl rfl (by decide +kernel)) (
  mA (i := 1) (ok_ic (n := 0) (pc := 1) (by decide +kernel) rfl rfl (by decide +kernel)) (
  mA (i := 2) (ok_pI (pc := 2) rfl (by decide +kernel) wd_618 inw_11 tyX10_ok nmX10 rfl (by decide +kernel) rfl rfl (by decide +kernel)) (
  mA (i := 3) (ok_ald_n (f := 0) (pc := 5) rfl rfl rfl (by decide +kernel)) (
  mA (i := 4) (ok_ild_n (f := 1) (pc := 6) rfl rfl rfl (by decide +kernel)) (
  mA (i := 5) (ok_callI (pc := 7) (can_V cal_N_isClause (by decide +kernel) rfl (by decide +kernel) rfl wd_607 wd_608 wd_609 wd_605 (by decide +kernel)) rfl rfl) (
  mA (i := 6) (ok_ifeq (off := 11) (pc := 10) (tgt := 21) rfl rfl rfl (by decide +kernel) (by decide +kernel)) (
  mA (i := 7) (ok_ald_n (f := 0) (pc := 13) rfl rfl rfl (by decide +kernel)) (
  mA (i := 8) (ok_ild_n (f := 1) (pc := 14) rfl rfl rfl (by decide +kernel)) (
  mA (i := 9) (ok_callI (pc := 15) (can_V cal_N_literalMany (by decide +kernel) rfl (by decide +kernel) rfl wd_671 wd_672 wd_673 wd_605 (by decide +kernel)) rfl rfl) (
  mA (i := 10) (ok_goto (off := 5) (pc := 18) (tgt := 23) rfl rfl (by decide +kernel) (by decide +kernel)) (
  mA (i := 11) (ok_bi (n := (-2)) (pc := 21) (by decide +kernel) rfl rfl (by decide +kernel)) (
  mA (i := 12) (ok_iret (pc := 23) rfl rfl (by decide +kernel)) (
  mZ)))))))))))))
set_option maxRecDepth 20000 in
theorem ok_N_literal : mAll (mOk RX10 cX10_literal 6 true false (some .int) (mnat p_N_literal)) 0 k_N_literal := mA (i := 0) (ok_ald_n (f := 0) (pc := 0) rfl rfl rfl (by decide +kernel)) (
  mA (i := 1) (ok_ic (n := 0) (pc := 1) (by decide +kernel) rfl rfl (by decide +kernel)) (
  mA (i := 2) (ok_pI (pc := 2) rfl (by decide +kernel) wd_618 inw_11 tyX10_ok nmX10 rfl (by decide +kernel) rfl rfl (by decide +kernel)) (
  mA (i := 3) (ok_ald_n (f := 0) (pc := 5) rfl rfl rfl (by decide +kernel)) (
  mA (i := 4) (ok_ild_n (f := 1) (pc := 6) rfl rfl rfl (by decide +kernel)) (
  mA (i := 5) (ok_callI (pc := 7) (can_V cal_N_isClause (by decide +kernel) rfl (by decide +kernel) rfl wd_607 wd_608 wd_609 wd_605 (by decide +kernel)) rfl rfl) (
  mA (i := 6) (ok_ifeq (off := 32) (pc := 10) (tgt := 42) rfl rfl rfl (by decide +kernel) (by decide +kernel)) (
  mA (i := 7) (ok_ild_n (f := 2) (pc := 13) rfl rfl rfl (by decide +kernel)) (
  mA (i := 8) (ok_i2l (pc := 14) rfl rfl (by decide +kernel)) (
  mA (i := 9) (ok_lc (n := 0) (pc := 15) (by decide +kernel) rfl rfl (by decide +kernel)) (
  mA (i := 10) (ok_ald_n (f := 0) (pc := 16) rfl rfl rfl (by decide +kernel)) (
  mA (i := 11) (ok_ild_n (f := 1) (pc := 17) rfl rfl rfl (by decide +kernel)) (
  mA (i := 12) (ok_callI (pc := 18) (can_V cal_N_literalMany (by decide +kernel) rfl (by decide +kernel) rfl wd_671 wd_672 wd_673 wd_605 (by decide +kernel)) rfl rfl) (
  mA (i := 13) (ok_ic (n := 1) (pc := 21) (by decide +kernel) rfl rfl (by decide +kernel)) (
  mA (i := 14) (ok_sub (pc := 22) rfl rfl (by decide +kernel)) (
  mA (i := 15) (ok_i2l (pc := 23) rfl rfl (by decide +kernel)) (
  mA (i := 16) (ok_callI (pc := 24) (can_S cal_N_within (by decide +kernel) wd_606 wd_604 wd_605 (by decide +kernel)) rfl rfl) (
  mA (i := 17) (ok_ifeq (off := 15) (pc := 27) (tgt := 42) rfl rfl rfl (by decide +kernel) (by decide +kernel)) (
  mA (i := 18) (ok_ild_n (f := 3) (pc := 30) rfl rfl rfl (by decide +kernel)) (
  mA (i := 19) (ok_i2l (pc := 31) rfl rfl (by decide +kernel)) (
  mA (i := 20) (ok_lc (n := 0) (pc := 32) (by decide +kernel) rfl rfl (by decide +kernel)) (
  mA (i := 21) (ok_ldc2 (pc := 33) wd_699 rfl rfl (by decide +kernel)) (
  mA (i := 22) (ok_callI (pc := 36) (can_S cal_N_within (by decide +kernel) wd_606 wd_604 wd_605 (by decide +kernel)) rfl rfl) (
  mA (i := 23) (ok_ifne (off := 6) (pc := 39) (tgt := 45) rfl rfl rfl (by decide +kernel) (by decide +kernel)) (
  mA (i := 24) (ok_bi (n := (-2)) (pc := 42) (by decide +kernel) rfl rfl (by decide +kernel)) (
  mA (i := 25) (ok_iret (pc := 44) rfl rfl (by decide +kernel)) (
  mA (i := 26) (ok_ald_n (f := 0) (pc := 45) rfl rfl rfl (by decide +kernel)) (
  mA (i := 27) (ok_ild_n (f := 1) (pc := 46) rfl rfl rfl (by decide +kernel)) (
  mA (i := 28) (ok_ild_n (f := 2) (pc := 47) rfl rfl rfl (by decide +kernel)) (
  mA (i := 29) (ok_callI (pc := 48) (can_V cal_N_beginOf (by decide +kernel) rfl (by decide +kernel) rfl wd_700 wd_701 wd_702 wd_605 (by decide +kernel)) rfl rfl) (
  mA (i := 30) (ok_ist (pc := 51) (by decide +kernel) rfl rfl rfl (by decide +kernel)) (
  mA (i := 31) (ok_ald_n (f := 0) (pc := 53) rfl rfl rfl (by decide +kernel)) (
  mA (i := 32) (ok_ild_n (f := 1) (pc := 54) rfl rfl rfl (by decide +kernel)) (
  mA (i := 33) (ok_ild (pc := 55) rfl rfl (by decide +kernel)) (
  mA (i := 34) (ok_callI (pc := 57) (can_V cal_N_codeAt (by decide +kernel) rfl (by decide +kernel) rfl wd_610 wd_611 wd_612 wd_605 (by decide +kernel)) rfl rfl) (
  mA (i := 35) (ok_bi (n := 100) (pc := 60) (by decide +kernel) rfl rfl (by decide +kernel)) (
  mA (i := 36) (ok_sub (pc := 62) rfl rfl (by decide +kernel)) (
  mA (i := 37) (ok_ist (pc := 63) (by decide +kernel) rfl rfl rfl (by decide +kernel)) (
  mA (i := 38) (ok_ild_n (f := 3) (pc := 65) rfl rfl rfl (by decide +kernel)) (
  mA (i := 39) (ok_ifne (off := 10) (pc := 66) (tgt := 76) rfl rfl rfl (by decide +kernel) (by decide +kernel)) (
  mA (i := 40) (ok_ild (pc := 69) rfl rfl (by decide +kernel)) (
  mA (i := 41) (ok_ic (n := 2) (pc := 71) (by decide +kernel) rfl rfl (by decide +kernel)) (
  mA (i := 42) (ok_rem (pc := 72) rfl rfl (by decide +kernel)) (
  mA (i := 43) (ok_goto (off := 25) (pc := 73) (tgt := 98) rfl rfl (by decide +kernel) (by decide +kernel)) (
  mA (i := 44) (ok_ild_n (f := 3) (pc := 76) rfl rfl rfl (by decide +kernel)) (
  mA (i := 45) (ok_ic (n := 1) (pc := 77) (by decide +kernel) rfl rfl (by decide +kernel)) (
  mA (i := 46) (ok_cne (off := 10) (pc := 78) (tgt := 88) rfl rfl rfl (by decide +kernel) (by decide +kernel)) (
  mA (i := 47) (ok_ild (pc := 81) rfl rfl (by decide +kernel)) (
  mA (i := 48) (ok_ic (n := 2) (pc := 83) (by decide +kernel) rfl rfl (by decide +kernel)) (
  mA (i := 49) (ok_div (pc := 84) rfl rfl (by decide +kernel)) (
  mA (i := 50) (ok_goto (off := 13) (pc := 85) (tgt := 98) rfl rfl (by decide +kernel) (by decide +kernel)) (
  mA (i := 51) (ok_ald_n (f := 0) (pc := 88) rfl rfl rfl (by decide +kernel)) (
  mA (i := 52) (ok_ild_n (f := 1) (pc := 89) rfl rfl rfl (by decide +kernel)) (
  mA (i := 53) (ok_ild (pc := 90) rfl rfl (by decide +kernel)) (
  mA (i := 54) (ok_callI (pc := 92) (can_V cal_N_pastOf (by decide +kernel) rfl (by decide +kernel) rfl wd_703 wd_704 wd_705 wd_605 (by decide +kernel)) rfl rfl) (
  mA (i := 55) (ok_ild (pc := 95) rfl rfl (by decide +kernel)) (
  mA (i := 56) (ok_sub (pc := 97) rfl rfl (by decide +kernel)) (
  mA (i := 57) (ok_iret (pc := 98) rfl rfl (by decide +kernel)) (
  mZ))))))))))))))))))))))))))))))))))))))))))))))))))))))))))
set_option maxRecDepth 20000 in
theorem ok_N_code : mAll (mOk RX10 cX10_code 3 true false (some .int) (mnat p_N_code)) 0 k_N_code := mA (i := 0) (ok_ald_n (f := 0) (pc := 0) rfl rfl rfl (by decide +kernel)) (
  mA (i := 1) (ok_ic (n := 0) (pc := 1) (by decide +kernel) rfl rfl (by decide +kernel)) (
  mA (i := 2) (ok_pI (pc := 2) rfl (by decide +kernel) wd_618 inw_11 tyX10_ok nmX10 rfl (by decide +kernel) rfl rfl (by decide +kernel)) (
  mA (i := 3) (ok_ild_n (f := 1) (pc := 5) rfl rfl rfl (by decide +kernel)) (
  mA (i := 4) (ok_i2l (pc := 6) rfl rfl (by decide +kernel)) (
  mA (i := 5) (ok_lc (n := 0) (pc := 7) (by decide +kernel) rfl rfl (by decide +kernel)) (
  mA (i := 6) (ok_ldc2 (pc := 8) wd_603 rfl rfl (by decide +kernel)) (
  mA (i := 7) (ok_callI (pc := 11) (can_S cal_N_within (by decide +kernel) wd_606 wd_604 wd_605 (by decide +kernel)) rfl rfl) (
  mA (i := 8) (ok_ifne (off := 6) (pc := 14) (tgt := 20) rfl rfl rfl (by decide +kernel) (by decide +kernel)) (
  mA (i := 9) (ok_bi (n := (-2)) (pc := 17) (by decide +kernel) rfl rfl (by decide +kernel)) (
  mA (i := 10) (ok_iret (pc := 19) rfl rfl (by decide +kernel)) (
  mA (i := 11) (ok_ald_n (f := 0) (pc := 20) rfl rfl rfl (by decide +kernel)) (
  mA (i := 12) (ok_ild_n (f := 1) (pc := 21) rfl rfl rfl (by decide +kernel)) (
  mA (i := 13) (ok_callI (pc := 22) (can_V cal_N_isClause (by decide +kernel) rfl (by decide +kernel) rfl wd_607 wd_608 wd_609 wd_605 (by decide +kernel)) rfl rfl) (
  mA (i := 14) (ok_ifne (off := 6) (pc := 25) (tgt := 31) rfl rfl rfl (by decide +kernel) (by decide +kernel)) (
  mA (i := 15) (ok_bi (n := (-6)) (pc := 28) (by decide +kernel) rfl rfl (by decide +kernel)) (
  mA (i := 16) (ok_iret (pc := 30) rfl rfl (by decide +kernel)) (
  mA (i := 17) (ok_ild_n (f := 2) (pc := 31) rfl rfl rfl (by decide +kernel)) (
  mA (i := 18) (ok_i2l (pc := 32) rfl rfl (by decide +kernel)) (
  mA (i := 19) (ok_lc (n := 0) (pc := 33) (by decide +kernel) rfl rfl (by decide +kernel)) (
  mA (i := 20) (ok_ald_n (f := 0) (pc := 34) rfl rfl rfl (by decide +kernel)) (
  mA (i := 21) (ok_ild_n (f := 1) (pc := 35) rfl rfl rfl (by decide +kernel)) (
  mA (i := 22) (ok_callI (pc := 36) (can_V cal_N_longOf (by decide +kernel) rfl (by decide +kernel) rfl wd_615 wd_616 wd_617 wd_605 (by decide +kernel)) rfl rfl) (
  mA (i := 23) (ok_ic (n := 1) (pc := 39) (by decide +kernel) rfl rfl (by decide +kernel)) (
  mA (i := 24) (ok_sub (pc := 40) rfl rfl (by decide +kernel)) (
  mA (i := 25) (ok_i2l (pc := 41) rfl rfl (by decide +kernel)) (
  mA (i := 26) (ok_callI (pc := 42) (can_S cal_N_within (by decide +kernel) wd_606 wd_604 wd_605 (by decide +kernel)) rfl rfl) (
  mA (i := 27) (ok_ifeq (off := 12) (pc := 45) (tgt := 57) rfl rfl rfl (by decide +kernel) (by decide +kernel)) (
  mA (i := 28) (ok_ald_n (f := 0) (pc := 48) rfl rfl rfl (by decide +kernel)) (
  mA (i := 29) (ok_ild_n (f := 1) (pc := 49) rfl rfl rfl (by decide +kernel)) (
  mA (i := 30) (ok_ild_n (f := 2) (pc := 50) rfl rfl rfl (by decide +kernel)) (
  mA (i := 31) (ok_callI (pc := 51) (can_V cal_N_codeAt (by decide +kernel) rfl (by decide +kernel) rfl wd_610 wd_611 wd_612 wd_605 (by decide +kernel)) rfl rfl) (
  mA (i := 32) (ok_goto (off := 5) (pc := 54) (tgt := 59) rfl rfl (by decide +kernel) (by decide +kernel)) (
  mA (i := 33) (ok_bi (n := (-7)) (pc := 57) (by decide +kernel) rfl rfl (by decide +kernel)) (
  mA (i := 34) (ok_iret (pc := 59) rfl rfl (by decide +kernel)) (
  mZ)))))))))))))))))))))))))))))))))))
set_option maxRecDepth 20000 in
theorem ok_N_isVariable : mAll (mOk RX10 cX10_isVariable 1 true false (some .boolean) (mnat p_N_isVariable)) 0 k_N_isVariable := mA (i := 0) (ok_ild_n (f := 0) (pc := 0) rfl rfl rfl (by decide +kernel)) (
  mA (i := 1) (ok_i2l (pc := 1) rfl rfl (by decide +kernel)) (
  mA (i := 2) (ok_ldc2 (pc := 2) wd_706 rfl rfl (by decide +kernel)) (
  mA (i := 3) (ok_ldc2 (pc := 5) wd_707 rfl rfl (by decide +kernel)) (
  mA (i := 4) (ok_callI (pc := 8) (can_S cal_N_within (by decide +kernel) wd_606 wd_604 wd_605 (by decide +kernel)) rfl rfl) (
  mA (i := 5) (ok_zret (pc := 11) rfl rfl (by decide +kernel)) (
  mZ))))))
set_option maxRecDepth 20000 in
theorem ok_N_variablesOf : mAll (mOk RX10 cX10_variablesOf 4 true false (some .int) (mnat p_N_variablesOf)) 0 k_N_variablesOf := mA (i := 0) (ok_ic (n := 0) (pc := 0) (by decide +kernel) rfl rfl (by decide +kernel)) (
  mA (i := 1) (ok_ist_n (f := 2) (pc := 1) rfl (by decide +kernel) rfl rfl rfl (by decide +kernel)) (
  mA (i := 2) (ok_ic (n := 0) (pc := 2) (by decide +kernel) rfl rfl (by decide +kernel)) (
  mA (i := 3) (ok_ist_n (f := 3) (pc := 3) rfl (by decide +kernel) rfl rfl rfl (by decide +kernel)) (
  mA (i := 4) (ok_ild_n (f := 3) (pc := 4) rfl rfl rfl (by decide +kernel)) (
  mA (i := 5) (ok_ald_n (f := 0) (pc := 5) rfl rfl rfl (by decide +kernel)) (
  mA (i := 6) (ok_ild_n (f := 1) (pc := 6) rfl rfl rfl (by decide +kernel)) (
  mA (i := 7) (ok_callI (pc := 7) (can_V cal_N_longOf (by decide +kernel) rfl (by decide +kernel) rfl wd_615 wd_616 wd_617 wd_605 (by decide +kernel)) rfl rfl) (
  mA (i := 8) (ok_cge (off := 39) (pc := 10) (tgt := 49) rfl rfl rfl (by decide +kernel) (by decide +kernel)) (
  mA (i := 9) (ok_ild_n (f := 2) (pc := 13) rfl rfl rfl (by decide +kernel)) (
  mA (i := 10) (ok_ald_n (f := 0) (pc := 14) rfl rfl rfl (by decide +kernel)) (
  mA (i := 11) (ok_ild_n (f := 1) (pc := 15) rfl rfl rfl (by decide +kernel)) (
  mA (i := 12) (ok_ild_n (f := 3) (pc := 16) rfl rfl rfl (by decide +kernel)) (
  mA (i := 13) (ok_callI (pc := 17) (can_V cal_N_codeAt (by decide +kernel) rfl (by decide +kernel) rfl wd_610 wd_611 wd_612 wd_605 (by decide +kernel)) rfl rfl) (
  mA (i := 14) (ok_callI (pc := 20) (can_S cal_N_isVariable (by decide +kernel) wd_709 wd_708 wd_605 (by decide +kernel)) rfl rfl) (
  mA (i := 15) (ok_ifeq (off := 17) (pc := 23) (tgt := 40) rfl rfl rfl (by decide +kernel) (by decide +kernel)) (
  mA (i := 16) (ok_ic (n := 1) (pc := 26) (by decide +kernel) rfl rfl (by decide +kernel)) (
  mA (i := 17) (ok_ald_n (f := 0) (pc := 27) rfl rfl rfl (by decide +kernel)) (
  mA (i := 18) (ok_ild_n (f := 1) (pc := 28) rfl rfl rfl (by decide +kernel)) (
  mA (i := 19) (ok_ild_n (f := 3) (pc := 29) rfl rfl rfl (by decide +kernel)) (
  mA (i := 20) (ok_callI (pc := 30) (can_V cal_N_codeAt (by decide +kernel) rfl (by decide +kernel) rfl wd_610 wd_611 wd_612 wd_605 (by decide +kernel)) rfl rfl) (
  mA (i := 21) (ok_bi (n := 20) (pc := 33) (by decide +kernel) rfl rfl (by decide +kernel)) (
  mA (i := 22) (ok_sub (pc := 35) rfl rfl (by decide +kernel)) (
  mA (i := 23) (ok_shl (pc := 36) rfl rfl (by decide +kernel)) (
  mA (i := 24) (ok_goto (off := 4) (pc := 37) (tgt := 41) rfl rfl (by decide +kernel) (by decide +kernel)) (
  mA (i := 25) (ok_ic (n := 0) (pc := 40) (by decide +kernel) rfl rfl (by decide +kernel)) (
  mA (i := 26) (ok_or (pc := 41) rfl rfl (by decide +kernel)) (
  mA (i := 27) (ok_ist_n (f := 2) (pc := 42) rfl (by decide +kernel) rfl rfl rfl (by decide +kernel)) (
  mA (i := 28) (ok_inc (z := 1) (pc := 43) (by decide +kernel) (by decide +kernel) rfl rfl rfl (by decide +kernel)) (
  mA (i := 29) (ok_goto (off := (-42)) (pc := 46) (tgt := 4) rfl rfl (by decide +kernel) (by decide +kernel)) (
  mA (i := 30) (ok_ild_n (f := 2) (pc := 49) rfl rfl rfl (by decide +kernel)) (
  mA (i := 31) (ok_iret (pc := 50) rfl rfl (by decide +kernel)) (
  mZ))))))))))))))))))))))))))))))))
set_option maxRecDepth 20000 in
theorem ok_N_variables : mAll (mOk RX10 cX10_variables 2 true false (some .int) (mnat p_N_variables)) 0 k_N_variables := mA (i := 0) (ok_ald_n (f := 0) (pc := 0) rfl rfl rfl (by decide +kernel)) (
  mA (i := 1) (ok_ic (n := 0) (pc := 1) (by decide +kernel) rfl rfl (by decide +kernel)) (
  mA (i := 2) (ok_pI (pc := 2) rfl (by decide +kernel) wd_618 inw_11 tyX10_ok nmX10 rfl (by decide +kernel) rfl rfl (by decide +kernel)) (
  mA (i := 3) (ok_ald_n (f := 0) (pc := 5) rfl rfl rfl (by decide +kernel)) (
  mA (i := 4) (ok_ild_n (f := 1) (pc := 6) rfl rfl rfl (by decide +kernel)) (
  mA (i := 5) (ok_callI (pc := 7) (can_V cal_N_isClause (by decide +kernel) rfl (by decide +kernel) rfl wd_607 wd_608 wd_609 wd_605 (by decide +kernel)) rfl rfl) (
  mA (i := 6) (ok_ifeq (off := 11) (pc := 10) (tgt := 21) rfl rfl rfl (by decide +kernel) (by decide +kernel)) (
  mA (i := 7) (ok_ald_n (f := 0) (pc := 13) rfl rfl rfl (by decide +kernel)) (
  mA (i := 8) (ok_ild_n (f := 1) (pc := 14) rfl rfl rfl (by decide +kernel)) (
  mA (i := 9) (ok_callI (pc := 15) (can_V cal_N_variablesOf (by decide +kernel) rfl (by decide +kernel) rfl wd_710 wd_711 wd_712 wd_605 (by decide +kernel)) rfl rfl) (
  mA (i := 10) (ok_goto (off := 5) (pc := 18) (tgt := 23) rfl rfl (by decide +kernel) (by decide +kernel)) (
  mA (i := 11) (ok_bi (n := (-2)) (pc := 21) (by decide +kernel) rfl rfl (by decide +kernel)) (
  mA (i := 12) (ok_iret (pc := 23) rfl rfl (by decide +kernel)) (
  mZ)))))))))))))
set_option maxRecDepth 20000 in
theorem ok_N_areSame : mAll (mOk RX10 cX10_areSame 7 true false (some .boolean) (mnat p_N_areSame)) 0 k_N_areSame := mA (i := 0) (ok_ic (n := 1) (pc := 0) (by decide +kernel) rfl rfl (by decide +kernel)) (
  mA (i := 1) (ok_ist (pc := 1) (by decide +kernel) rfl rfl rfl (by decide +kernel)) (
  mA (i := 2) (ok_ild (pc := 3) rfl rfl (by decide +kernel)) (
  mA (i := 3) (ok_ild (pc := 5) rfl rfl (by decide +kernel)) (
  mA (i := 4) (ok_cge (off := 33) (pc := 7) (tgt := 40) rfl rfl rfl (by decide +kernel) (by decide +kernel)) (
  mA (i := 5) (ok_ald_n (f := 0) (pc := 10) rfl rfl rfl (by decide +kernel)) (
  mA (i := 6) (ok_ild_n (f := 1) (pc := 11) rfl rfl rfl (by decide +kernel)) (
  mA (i := 7) (ok_ild_n (f := 2) (pc := 12) rfl rfl rfl (by decide +kernel)) (
  mA (i := 8) (ok_ild (pc := 13) rfl rfl (by decide +kernel)) (
  mA (i := 9) (ok_add (pc := 15) rfl rfl (by decide +kernel)) (
  mA (i := 10) (ok_callI (pc := 16) (can_V cal_N_codeAt (by decide +kernel) rfl (by decide +kernel) rfl wd_610 wd_611 wd_612 wd_605 (by decide +kernel)) rfl rfl) (
  mA (i := 11) (ok_ald_n (f := 0) (pc := 19) rfl rfl rfl (by decide +kernel)) (
  mA (i := 12) (ok_ild_n (f := 3) (pc := 20) rfl rfl rfl (by decide +kernel)) (
  mA (i := 13) (ok_ild (pc := 21) rfl rfl (by decide +kernel)) (
  mA (i := 14) (ok_ild (pc := 23) rfl rfl (by decide +kernel)) (
  mA (i := 15) (ok_add (pc := 25) rfl rfl (by decide +kernel)) (
  mA (i := 16) (ok_callI (pc := 26) (can_V cal_N_codeAt (by decide +kernel) rfl (by decide +kernel) rfl wd_610 wd_611 wd_612 wd_605 (by decide +kernel)) rfl rfl) (
  mA (i := 17) (ok_ceq (off := 5) (pc := 29) (tgt := 34) rfl rfl rfl (by decide +kernel) (by decide +kernel)) (
  mA (i := 18) (ok_ic (n := 0) (pc := 32) (by decide +kernel) rfl rfl (by decide +kernel)) (
  mA (i := 19) (ok_zret (pc := 33) rfl rfl (by decide +kernel)) (
  mA (i := 20) (ok_inc (z := 1) (pc := 34) (by decide +kernel) (by decide +kernel) rfl rfl rfl (by decide +kernel)) (
  mA (i := 21) (ok_goto (off := (-34)) (pc := 37) (tgt := 3) rfl rfl (by decide +kernel) (by decide +kernel)) (
  mA (i := 22) (ok_ic (n := 1) (pc := 40) (by decide +kernel) rfl rfl (by decide +kernel)) (
  mA (i := 23) (ok_zret (pc := 41) rfl rfl (by decide +kernel)) (
  mZ))))))))))))))))))))))))
set_option maxRecDepth 20000 in
theorem ok_N_always_t60 : mAll (mOk RX10 cX10_always 7 true false (some .int) (mnat p_N_always)) 60 [o_ild 5, o_callI 199 3 11, o_ild 5, o_sub, o_ild 6, o_cne 76, o_ald 0, o_ild 1, o_ild 4, o_ild 1, o_ild 5, o_ild 6, o_callI 239 6 11, o_ifeq 76, o_ic (nI 1), o_iret, o_inc 3 (nI 1), o_goto 18, o_inc 2 (nI 1), o_goto 11, o_ic (nI 0), o_iret] := mA (i := 60) (ok_ild (pc := 99) rfl rfl (by decide +kernel)) (
  mA (i := 61) (ok_callI (pc := 101) (can_V cal_N_pastOf (by decide +kernel) rfl (by decide +kernel) rfl wd_703 wd_704 wd_705 wd_605 (by decide +kernel)) rfl rfl) (
  mA (i := 62) (ok_ild (pc := 104) rfl rfl (by decide +kernel)) (
  mA (i := 63) (ok_sub (pc := 106) rfl rfl (by decide +kernel)) (
  mA (i := 64) (ok_ild (pc := 107) rfl rfl (by decide +kernel)) (
  mA (i := 65) (ok_cne (off := 20) (pc := 109) (tgt := 129) rfl rfl rfl (by decide +kernel) (by decide +kernel)) (
  mA (i := 66) (ok_ald_n (f := 0) (pc := 112) rfl rfl rfl (by decide +kernel)) (
  mA (i := 67) (ok_ild_n (f := 1) (pc := 113) rfl rfl rfl (by decide +kernel)) (
  mA (i := 68) (ok_ild (pc := 114) rfl rfl (by decide +kernel)) (
  mA (i := 69) (ok_ild_n (f := 1) (pc := 116) rfl rfl rfl (by decide +kernel)) (
  mA (i := 70) (ok_ild (pc := 117) rfl rfl (by decide +kernel)) (
  mA (i := 71) (ok_ild (pc := 119) rfl rfl (by decide +kernel)) (
  mA (i := 72) (ok_callI (pc := 121) (can_V cal_N_areSame (by decide +kernel) rfl (by decide +kernel) rfl wd_713 wd_714 wd_715 wd_605 (by decide +kernel)) rfl rfl) (
  mA (i := 73) (ok_ifeq (off := 5) (pc := 124) (tgt := 129) rfl rfl rfl (by decide +kernel) (by decide +kernel)) (
  mA (i := 74) (ok_ic (n := 1) (pc := 127) (by decide +kernel) rfl rfl (by decide +kernel)) (
  mA (i := 75) (ok_iret (pc := 128) rfl rfl (by decide +kernel)) (
  mA (i := 76) (ok_inc (z := 1) (pc := 129) (by decide +kernel) (by decide +kernel) rfl rfl rfl (by decide +kernel)) (
  mA (i := 77) (ok_goto (off := (-103)) (pc := 132) (tgt := 29) rfl rfl (by decide +kernel) (by decide +kernel)) (
  mA (i := 78) (ok_inc (z := 1) (pc := 135) (by decide +kernel) (by decide +kernel) rfl rfl rfl (by decide +kernel)) (
  mA (i := 79) (ok_goto (off := (-120)) (pc := 138) (tgt := 18) rfl rfl (by decide +kernel) (by decide +kernel)) (
  mA (i := 80) (ok_ic (n := 0) (pc := 141) (by decide +kernel) rfl rfl (by decide +kernel)) (
  mA (i := 81) (ok_iret (pc := 142) rfl rfl (by decide +kernel)) (
  mZ))))))))))))))))))))))
set_option maxRecDepth 20000 in
theorem ok_N_always : mAll (mOk RX10 cX10_always 7 true false (some .int) (mnat p_N_always)) 0 k_N_always := mA (i := 0) (ok_ald_n (f := 0) (pc := 0) rfl rfl rfl (by decide +kernel)) (
  mA (i := 1) (ok_ic (n := 0) (pc := 1) (by decide +kernel) rfl rfl (by decide +kernel)) (
  mA (i := 2) (ok_pI (pc := 2) rfl (by decide +kernel) wd_618 inw_11 tyX10_ok nmX10 rfl (by decide +kernel) rfl rfl (by decide +kernel)) (
  mA (i := 3) (ok_ald_n (f := 0) (pc := 5) rfl rfl rfl (by decide +kernel)) (
  mA (i := 4) (ok_ild_n (f := 1) (pc := 6) rfl rfl rfl (by decide +kernel)) (
  mA (i := 5) (ok_callI (pc := 7) (can_V cal_N_isClause (by decide +kernel) rfl (by decide +kernel) rfl wd_607 wd_608 wd_609 wd_605 (by decide +kernel)) rfl rfl) (
  mA (i := 6) (ok_ifne (off := 6) (pc := 10) (tgt := 16) rfl rfl rfl (by decide +kernel) (by decide +kernel)) (
  mA (i := 7) (ok_bi (n := (-2)) (pc := 13) (by decide +kernel) rfl rfl (by decide +kernel)) (
  mA (i := 8) (ok_iret (pc := 15) rfl rfl (by decide +kernel)) (
  mA (i := 9) (ok_ic (n := 0) (pc := 16) (by decide +kernel) rfl rfl (by decide +kernel)) (
  mA (i := 10) (ok_ist_n (f := 2) (pc := 17) rfl (by decide +kernel) rfl rfl rfl (by decide +kernel)) (
  mA (i := 11) (ok_ild_n (f := 2) (pc := 18) rfl rfl rfl (by decide +kernel)) (
  mA (i := 12) (ok_ald_n (f := 0) (pc := 19) rfl rfl rfl (by decide +kernel)) (
  mA (i := 13) (ok_ild_n (f := 1) (pc := 20) rfl rfl rfl (by decide +kernel)) (
  mA (i := 14) (ok_callI (pc := 21) (can_V cal_N_literalMany (by decide +kernel) rfl (by decide +kernel) rfl wd_671 wd_672 wd_673 wd_605 (by decide +kernel)) rfl rfl) (
  mA (i := 15) (ok_cge (off := 117) (pc := 24) (tgt := 141) rfl rfl rfl (by decide +kernel) (by decide +kernel)) (
  mA (i := 16) (ok_ic (n := 0) (pc := 27) (by decide +kernel) rfl rfl (by decide +kernel)) (
  mA (i := 17) (ok_ist_n (f := 3) (pc := 28) rfl (by decide +kernel) rfl rfl rfl (by decide +kernel)) (
  mA (i := 18) (ok_ild_n (f := 3) (pc := 29) rfl rfl rfl (by decide +kernel)) (
  mA (i := 19) (ok_ald_n (f := 0) (pc := 30) rfl rfl rfl (by decide +kernel)) (
  mA (i := 20) (ok_ild_n (f := 1) (pc := 31) rfl rfl rfl (by decide +kernel)) (
  mA (i := 21) (ok_callI (pc := 32) (can_V cal_N_literalMany (by decide +kernel) rfl (by decide +kernel) rfl wd_671 wd_672 wd_673 wd_605 (by decide +kernel)) rfl rfl) (
  mA (i := 22) (ok_cge (off := 100) (pc := 35) (tgt := 135) rfl rfl rfl (by decide +kernel) (by decide +kernel)) (
  mA (i := 23) (ok_ald_n (f := 0) (pc := 38) rfl rfl rfl (by decide +kernel)) (
  mA (i := 24) (ok_ild_n (f := 1) (pc := 39) rfl rfl rfl (by decide +kernel)) (
  mA (i := 25) (ok_ild_n (f := 2) (pc := 40) rfl rfl rfl (by decide +kernel)) (
  mA (i := 26) (ok_callI (pc := 41) (can_V cal_N_beginOf (by decide +kernel) rfl (by decide +kernel) rfl wd_700 wd_701 wd_702 wd_605 (by decide +kernel)) rfl rfl) (
  mA (i := 27) (ok_ist (pc := 44) (by decide +kernel) rfl rfl rfl (by decide +kernel)) (
  mA (i := 28) (ok_ald_n (f := 0) (pc := 46) rfl rfl rfl (by decide +kernel)) (
  mA (i := 29) (ok_ild_n (f := 1) (pc := 47) rfl rfl rfl (by decide +kernel)) (
  mA (i := 30) (ok_ild_n (f := 3) (pc := 48) rfl rfl rfl (by decide +kernel)) (
  mA (i := 31) (ok_callI (pc := 49) (can_V cal_N_beginOf (by decide +kernel) rfl (by decide +kernel) rfl wd_700 wd_701 wd_702 wd_605 (by decide +kernel)) rfl rfl) (
  mA (i := 32) (ok_ist (pc := 52) (by decide +kernel) rfl rfl rfl (by decide +kernel)) (
  mA (i := 33) (ok_ald_n (f := 0) (pc := 54) rfl rfl rfl (by decide +kernel)) (
  mA (i := 34) (ok_ild_n (f := 1) (pc := 55) rfl rfl rfl (by decide +kernel)) (
  mA (i := 35) (ok_ild (pc := 56) rfl rfl (by decide +kernel)) (
  mA (i := 36) (ok_callI (pc := 58) (can_V cal_N_pastOf (by decide +kernel) rfl (by decide +kernel) rfl wd_703 wd_704 wd_705 wd_605 (by decide +kernel)) rfl rfl) (
  mA (i := 37) (ok_ild (pc := 61) rfl rfl (by decide +kernel)) (
  mA (i := 38) (ok_sub (pc := 63) rfl rfl (by decide +kernel)) (
  mA (i := 39) (ok_ist (pc := 64) (by decide +kernel) rfl rfl rfl (by decide +kernel)) (
  mA (i := 40) (ok_ald_n (f := 0) (pc := 66) rfl rfl rfl (by decide +kernel)) (
  mA (i := 41) (ok_ild_n (f := 1) (pc := 67) rfl rfl rfl (by decide +kernel)) (
  mA (i := 42) (ok_ild (pc := 68) rfl rfl (by decide +kernel)) (
  mA (i := 43) (ok_callI (pc := 70) (can_V cal_N_codeAt (by decide +kernel) rfl (by decide +kernel) rfl wd_610 wd_611 wd_612 wd_605 (by decide +kernel)) rfl rfl) (
  mA (i := 44) (ok_ic (n := 2) (pc := 73) (by decide +kernel) rfl rfl (by decide +kernel)) (
  mA (i := 45) (ok_rem (pc := 74) rfl rfl (by decide +kernel)) (
  mA (i := 46) (ok_ifne (off := 54) (pc := 75) (tgt := 129) rfl rfl rfl (by decide +kernel) (by decide +kernel)) (
  mA (i := 47) (ok_ald_n (f := 0) (pc := 78) rfl rfl rfl (by decide +kernel)) (
  mA (i := 48) (ok_ild_n (f := 1) (pc := 79) rfl rfl rfl (by decide +kernel)) (
  mA (i := 49) (ok_ild (pc := 80) rfl rfl (by decide +kernel)) (
  mA (i := 50) (ok_callI (pc := 82) (can_V cal_N_codeAt (by decide +kernel) rfl (by decide +kernel) rfl wd_610 wd_611 wd_612 wd_605 (by decide +kernel)) rfl rfl) (
  mA (i := 51) (ok_ald_n (f := 0) (pc := 85) rfl rfl rfl (by decide +kernel)) (
  mA (i := 52) (ok_ild_n (f := 1) (pc := 86) rfl rfl rfl (by decide +kernel)) (
  mA (i := 53) (ok_ild (pc := 87) rfl rfl (by decide +kernel)) (
  mA (i := 54) (ok_callI (pc := 89) (can_V cal_N_codeAt (by decide +kernel) rfl (by decide +kernel) rfl wd_610 wd_611 wd_612 wd_605 (by decide +kernel)) rfl rfl) (
  mA (i := 55) (ok_ic (n := 1) (pc := 92) (by decide +kernel) rfl rfl (by decide +kernel)) (
  mA (i := 56) (ok_add (pc := 93) rfl rfl (by decide +kernel)) (
  mA (i := 57) (ok_cne (off := 35) (pc := 94) (tgt := 129) rfl rfl rfl (by decide +kernel) (by decide +kernel)) (
  mA (i := 58) (ok_ald_n (f := 0) (pc := 97) rfl rfl rfl (by decide +kernel)) (
  mA (i := 59) (ok_ild_n (f := 1) (pc := 98) rfl rfl rfl (by decide +kernel)) (
  ok_N_always_t60))))))))))))))))))))))))))))))))))))))))))))))))))))))))))))
set_option maxRecDepth 20000 in
theorem ok_N_matches_t120 : mAll (mOk RX10 cX10_matches 12 true false (some .boolean) (mnat p_N_matches)) 120 [o_ild 7, o_callI 196 3 11, o_cne 133, o_ald 0, o_ald 0, o_gI 11 29, o_ild 11, o_ald 0, o_gI 11 29, o_ild 7, o_ild 10, o_callI 239 6 11, o_ifne 135, o_ic (nI 0), o_zret, o_ild 7, o_ild 10, o_add, o_ist 7, o_inc 6 (nI 1), o_goto 41, o_ild 7, o_ild 5, o_cne 146, o_ic (nI 1), o_goto 147, o_ic (nI 0), o_zret] := mA (i := 120) (ok_ild (pc := 220) rfl rfl (by decide +kernel)) (
  mA (i := 121) (ok_callI (pc := 222) (can_V cal_N_codeAt (by decide +kernel) rfl (by decide +kernel) rfl wd_610 wd_611 wd_612 wd_605 (by decide +kernel)) rfl rfl) (
  mA (i := 122) (ok_cne (off := 24) (pc := 225) (tgt := 249) rfl rfl rfl (by decide +kernel) (by decide +kernel)) (
  mA (i := 123) (ok_ald_n (f := 0) (pc := 228) rfl rfl rfl (by decide +kernel)) (
  mA (i := 124) (ok_ald_n (f := 0) (pc := 229) rfl rfl rfl (by decide +kernel)) (
  mA (i := 125) (ok_gI (pc := 230) rfl (by decide +kernel) wd_717 inw_11 rfl rfl (by decide +kernel)) (
  mA (i := 126) (ok_ild (pc := 233) rfl rfl (by decide +kernel)) (
  mA (i := 127) (ok_ald_n (f := 0) (pc := 235) rfl rfl rfl (by decide +kernel)) (
  mA (i := 128) (ok_gI (pc := 236) rfl (by decide +kernel) wd_717 inw_11 rfl rfl (by decide +kernel)) (
  mA (i := 129) (ok_ild (pc := 239) rfl rfl (by decide +kernel)) (
  mA (i := 130) (ok_ild (pc := 241) rfl rfl (by decide +kernel)) (
  mA (i := 131) (ok_callI (pc := 243) (can_V cal_N_areSame (by decide +kernel) rfl (by decide +kernel) rfl wd_713 wd_714 wd_715 wd_605 (by decide +kernel)) rfl rfl) (
  mA (i := 132) (ok_ifne (off := 5) (pc := 246) (tgt := 251) rfl rfl rfl (by decide +kernel) (by decide +kernel)) (
  mA (i := 133) (ok_ic (n := 0) (pc := 249) (by decide +kernel) rfl rfl (by decide +kernel)) (
  mA (i := 134) (ok_zret (pc := 250) rfl rfl (by decide +kernel)) (
  mA (i := 135) (ok_ild (pc := 251) rfl rfl (by decide +kernel)) (
  mA (i := 136) (ok_ild (pc := 253) rfl rfl (by decide +kernel)) (
  mA (i := 137) (ok_add (pc := 255) rfl rfl (by decide +kernel)) (
  mA (i := 138) (ok_ist (pc := 256) (by decide +kernel) rfl rfl rfl (by decide +kernel)) (
  mA (i := 139) (ok_inc (z := 1) (pc := 258) (by decide +kernel) (by decide +kernel) rfl rfl rfl (by decide +kernel)) (
  mA (i := 140) (ok_goto (off := (-191)) (pc := 261) (tgt := 70) rfl rfl (by decide +kernel) (by decide +kernel)) (
  mA (i := 141) (ok_ild (pc := 264) rfl rfl (by decide +kernel)) (
  mA (i := 142) (ok_ild (pc := 266) rfl rfl (by decide +kernel)) (
  mA (i := 143) (ok_cne (off := 7) (pc := 268) (tgt := 275) rfl rfl rfl (by decide +kernel) (by decide +kernel)) (
  mA (i := 144) (ok_ic (n := 1) (pc := 271) (by decide +kernel) rfl rfl (by decide +kernel)) (
  mA (i := 145) (ok_goto (off := 4) (pc := 272) (tgt := 276) rfl rfl (by decide +kernel) (by decide +kernel)) (
  mA (i := 146) (ok_ic (n := 0) (pc := 275) (by decide +kernel) rfl rfl (by decide +kernel)) (
  mA (i := 147) (ok_zret (pc := 276) rfl rfl (by decide +kernel)) (
  mZ))))))))))))))))))))))))))))
set_option maxRecDepth 20000 in
theorem ok_N_matches_t60 : mAll (mOk RX10 cX10_matches 12 true false (some .boolean) (mnat p_N_matches)) 60 [o_ald 0, o_gI 11 29, o_ild 7, o_callI 196 3 11, o_ceq 67, o_ic (nI 0), o_zret, o_inc 7 (nI 1), o_goto 139, o_ic (nI 6), o_ild 3, o_ic (nI 1), o_add, o_mul, o_ild 8, o_add, o_ic (nI 20), o_sub, o_ist 9, o_ald 0, o_ald 0, o_gI 11 29, o_ild 7, o_callI 199 3 11, o_ild 7, o_sub, o_ist 10, o_ald 0, o_gP 11 19, o_ild 9, o_ald4 21, o_ic ((-1)), o_cne 98, o_ald 0, o_gP 11 19, o_ild 9, o_ild 7, o_iast, o_ald 0, o_gP 11 19, o_ild 9, o_ald4 21, o_ist 11, o_ald 0, o_ald 0, o_gI 11 29, o_ild 11, o_callI 199 3 11, o_ild 11, o_sub, o_ild 10, o_cne 133, o_ald 0, o_ald 0, o_gI 11 29, o_ild 11, o_callI 196 3 11, o_ald 0, o_ald 0, o_gI 11 29, o_ild 7, o_callI 196 3 11, o_cne 133, o_ald 0, o_ald 0, o_gI 11 29, o_ild 11, o_ald 0, o_gI 11 29, o_ild 7, o_ild 10, o_callI 239 6 11, o_ifne 135, o_ic (nI 0), o_zret, o_ild 7, o_ild 10, o_add, o_ist 7, o_inc 6 (nI 1), o_goto 41, o_ild 7, o_ild 5, o_cne 146, o_ic (nI 1), o_goto 147, o_ic (nI 0), o_zret] := mA (i := 60) (ok_ald_n (f := 0) (pc := 109) rfl rfl rfl (by decide +kernel)) (
  mA (i := 61) (ok_gI (pc := 110) rfl (by decide +kernel) wd_717 inw_11 rfl rfl (by decide +kernel)) (
  mA (i := 62) (ok_ild (pc := 113) rfl rfl (by decide +kernel)) (
  mA (i := 63) (ok_callI (pc := 115) (can_V cal_N_codeAt (by decide +kernel) rfl (by decide +kernel) rfl wd_610 wd_611 wd_612 wd_605 (by decide +kernel)) rfl rfl) (
  mA (i := 64) (ok_ceq (off := 5) (pc := 118) (tgt := 123) rfl rfl rfl (by decide +kernel) (by decide +kernel)) (
  mA (i := 65) (ok_ic (n := 0) (pc := 121) (by decide +kernel) rfl rfl (by decide +kernel)) (
  mA (i := 66) (ok_zret (pc := 122) rfl rfl (by decide +kernel)) (
  mA (i := 67) (ok_inc (z := 1) (pc := 123) (by decide +kernel) (by decide +kernel) rfl rfl rfl (by decide +kernel)) (
  mA (i := 68) (ok_goto (off := 132) (pc := 126) (tgt := 258) rfl rfl (by decide +kernel) (by decide +kernel)) (
  mA (i := 69) (ok_bi (n := 6) (pc := 129) (by decide +kernel) rfl rfl (by decide +kernel)) (
  mA (i := 70) (ok_ild_n (f := 3) (pc := 131) rfl rfl rfl (by decide +kernel)) (
  mA (i := 71) (ok_ic (n := 1) (pc := 132) (by decide +kernel) rfl rfl (by decide +kernel)) (
  mA (i := 72) (ok_add (pc := 133) rfl rfl (by decide +kernel)) (
  mA (i := 73) (ok_mul (pc := 134) rfl rfl (by decide +kernel)) (
  mA (i := 74) (ok_ild (pc := 135) rfl rfl (by decide +kernel)) (
  mA (i := 75) (ok_add (pc := 137) rfl rfl (by decide +kernel)) (
  mA (i := 76) (ok_bi (n := 20) (pc := 138) (by decide +kernel) rfl rfl (by decide +kernel)) (
  mA (i := 77) (ok_sub (pc := 140) rfl rfl (by decide +kernel)) (
  mA (i := 78) (ok_ist (pc := 141) (by decide +kernel) rfl rfl rfl (by decide +kernel)) (
  mA (i := 79) (ok_ald_n (f := 0) (pc := 143) rfl rfl rfl (by decide +kernel)) (
  mA (i := 80) (ok_ald_n (f := 0) (pc := 144) rfl rfl rfl (by decide +kernel)) (
  mA (i := 81) (ok_gI (pc := 145) rfl (by decide +kernel) wd_717 inw_11 rfl rfl (by decide +kernel)) (
  mA (i := 82) (ok_ild (pc := 148) rfl rfl (by decide +kernel)) (
  mA (i := 83) (ok_callI (pc := 150) (can_V cal_N_pastOf (by decide +kernel) rfl (by decide +kernel) rfl wd_703 wd_704 wd_705 wd_605 (by decide +kernel)) rfl rfl) (
  mA (i := 84) (ok_ild (pc := 153) rfl rfl (by decide +kernel)) (
  mA (i := 85) (ok_sub (pc := 155) rfl rfl (by decide +kernel)) (
  mA (i := 86) (ok_ist (pc := 156) (by decide +kernel) rfl rfl rfl (by decide +kernel)) (
  mA (i := 87) (ok_ald_n (f := 0) (pc := 158) rfl rfl rfl (by decide +kernel)) (
  mA (i := 88) (ok_gP (pc := 159) rfl (by decide +kernel) wd_583 inw_11 rfl rfl (by decide +kernel)) (
  mA (i := 89) (ok_ild (pc := 162) rfl rfl (by decide +kernel)) (
  mA (i := 90) (ok_iald (pc := 164) rfl rfl (by decide +kernel)) (
  mA (i := 91) (ok_ic (n := (-1)) (pc := 165) (by decide +kernel) rfl rfl (by decide +kernel)) (
  mA (i := 92) (ok_cne (off := 12) (pc := 166) (tgt := 178) rfl rfl rfl (by decide +kernel) (by decide +kernel)) (
  mA (i := 93) (ok_ald_n (f := 0) (pc := 169) rfl rfl rfl (by decide +kernel)) (
  mA (i := 94) (ok_gP (pc := 170) rfl (by decide +kernel) wd_583 inw_11 rfl rfl (by decide +kernel)) (
  mA (i := 95) (ok_ild (pc := 173) rfl rfl (by decide +kernel)) (
  mA (i := 96) (ok_ild (pc := 175) rfl rfl (by decide +kernel)) (
  mA (i := 97) (ok_iast (pc := 177) rfl rfl (by decide +kernel)) (
  mA (i := 98) (ok_ald_n (f := 0) (pc := 178) rfl rfl rfl (by decide +kernel)) (
  mA (i := 99) (ok_gP (pc := 179) rfl (by decide +kernel) wd_583 inw_11 rfl rfl (by decide +kernel)) (
  mA (i := 100) (ok_ild (pc := 182) rfl rfl (by decide +kernel)) (
  mA (i := 101) (ok_iald (pc := 184) rfl rfl (by decide +kernel)) (
  mA (i := 102) (ok_ist (pc := 185) (by decide +kernel) rfl rfl rfl (by decide +kernel)) (
  mA (i := 103) (ok_ald_n (f := 0) (pc := 187) rfl rfl rfl (by decide +kernel)) (
  mA (i := 104) (ok_ald_n (f := 0) (pc := 188) rfl rfl rfl (by decide +kernel)) (
  mA (i := 105) (ok_gI (pc := 189) rfl (by decide +kernel) wd_717 inw_11 rfl rfl (by decide +kernel)) (
  mA (i := 106) (ok_ild (pc := 192) rfl rfl (by decide +kernel)) (
  mA (i := 107) (ok_callI (pc := 194) (can_V cal_N_pastOf (by decide +kernel) rfl (by decide +kernel) rfl wd_703 wd_704 wd_705 wd_605 (by decide +kernel)) rfl rfl) (
  mA (i := 108) (ok_ild (pc := 197) rfl rfl (by decide +kernel)) (
  mA (i := 109) (ok_sub (pc := 199) rfl rfl (by decide +kernel)) (
  mA (i := 110) (ok_ild (pc := 200) rfl rfl (by decide +kernel)) (
  mA (i := 111) (ok_cne (off := 47) (pc := 202) (tgt := 249) rfl rfl rfl (by decide +kernel) (by decide +kernel)) (
  mA (i := 112) (ok_ald_n (f := 0) (pc := 205) rfl rfl rfl (by decide +kernel)) (
  mA (i := 113) (ok_ald_n (f := 0) (pc := 206) rfl rfl rfl (by decide +kernel)) (
  mA (i := 114) (ok_gI (pc := 207) rfl (by decide +kernel) wd_717 inw_11 rfl rfl (by decide +kernel)) (
  mA (i := 115) (ok_ild (pc := 210) rfl rfl (by decide +kernel)) (
  mA (i := 116) (ok_callI (pc := 212) (can_V cal_N_codeAt (by decide +kernel) rfl (by decide +kernel) rfl wd_610 wd_611 wd_612 wd_605 (by decide +kernel)) rfl rfl) (
  mA (i := 117) (ok_ald_n (f := 0) (pc := 215) rfl rfl rfl (by decide +kernel)) (
  mA (i := 118) (ok_ald_n (f := 0) (pc := 216) rfl rfl rfl (by decide +kernel)) (
  mA (i := 119) (ok_gI (pc := 217) rfl (by decide +kernel) wd_717 inw_11 rfl rfl (by decide +kernel)) (
  ok_N_matches_t120))))))))))))))))))))))))))))))))))))))))))))))))))))))))))))
set_option maxRecDepth 20000 in
theorem ok_N_matches : mAll (mOk RX10 cX10_matches 12 true false (some .boolean) (mnat p_N_matches)) 0 k_N_matches := mA (i := 0) (ok_ic (n := 0) (pc := 0) (by decide +kernel) rfl rfl (by decide +kernel)) (
  mA (i := 1) (ok_ist (pc := 1) (by decide +kernel) rfl rfl rfl (by decide +kernel)) (
  mA (i := 2) (ok_ild (pc := 3) rfl rfl (by decide +kernel)) (
  mA (i := 3) (ok_bi (n := 6) (pc := 5) (by decide +kernel) rfl rfl (by decide +kernel)) (
  mA (i := 4) (ok_cge (off := 35) (pc := 7) (tgt := 42) rfl rfl rfl (by decide +kernel) (by decide +kernel)) (
  mA (i := 5) (ok_ald_n (f := 0) (pc := 10) rfl rfl rfl (by decide +kernel)) (
  mA (i := 6) (ok_gP (pc := 11) rfl (by decide +kernel) wd_583 inw_11 rfl rfl (by decide +kernel)) (
  mA (i := 7) (ok_bi (n := 6) (pc := 14) (by decide +kernel) rfl rfl (by decide +kernel)) (
  mA (i := 8) (ok_ild_n (f := 3) (pc := 16) rfl rfl rfl (by decide +kernel)) (
  mA (i := 9) (ok_ic (n := 1) (pc := 17) (by decide +kernel) rfl rfl (by decide +kernel)) (
  mA (i := 10) (ok_add (pc := 18) rfl rfl (by decide +kernel)) (
  mA (i := 11) (ok_mul (pc := 19) rfl rfl (by decide +kernel)) (
  mA (i := 12) (ok_ild (pc := 20) rfl rfl (by decide +kernel)) (
  mA (i := 13) (ok_add (pc := 22) rfl rfl (by decide +kernel)) (
  mA (i := 14) (ok_ald_n (f := 0) (pc := 23) rfl rfl rfl (by decide +kernel)) (
  mA (i := 15) (ok_gP (pc := 24) rfl (by decide +kernel) wd_583 inw_11 rfl rfl (by decide +kernel)) (
  mA (i := 16) (ok_bi (n := 6) (pc := 27) (by decide +kernel) rfl rfl (by decide +kernel)) (
  mA (i := 17) (ok_ild_n (f := 3) (pc := 29) rfl rfl rfl (by decide +kernel)) (
  mA (i := 18) (ok_mul (pc := 30) rfl rfl (by decide +kernel)) (
  mA (i := 19) (ok_ild (pc := 31) rfl rfl (by decide +kernel)) (
  mA (i := 20) (ok_add (pc := 33) rfl rfl (by decide +kernel)) (
  mA (i := 21) (ok_iald (pc := 34) rfl rfl (by decide +kernel)) (
  mA (i := 22) (ok_iast (pc := 35) rfl rfl (by decide +kernel)) (
  mA (i := 23) (ok_inc (z := 1) (pc := 36) (by decide +kernel) (by decide +kernel) rfl rfl rfl (by decide +kernel)) (
  mA (i := 24) (ok_goto (off := (-36)) (pc := 39) (tgt := 3) rfl rfl (by decide +kernel) (by decide +kernel)) (
  mA (i := 25) (ok_ald_n (f := 0) (pc := 42) rfl rfl rfl (by decide +kernel)) (
  mA (i := 26) (ok_ald_n (f := 0) (pc := 43) rfl rfl rfl (by decide +kernel)) (
  mA (i := 27) (ok_gI (pc := 44) rfl (by decide +kernel) wd_716 inw_11 rfl rfl (by decide +kernel)) (
  mA (i := 28) (ok_ild_n (f := 1) (pc := 47) rfl rfl rfl (by decide +kernel)) (
  mA (i := 29) (ok_callI (pc := 48) (can_V cal_N_pastOf (by decide +kernel) rfl (by decide +kernel) rfl wd_703 wd_704 wd_705 wd_605 (by decide +kernel)) rfl rfl) (
  mA (i := 30) (ok_ist (pc := 51) (by decide +kernel) rfl rfl rfl (by decide +kernel)) (
  mA (i := 31) (ok_ald_n (f := 0) (pc := 53) rfl rfl rfl (by decide +kernel)) (
  mA (i := 32) (ok_ald_n (f := 0) (pc := 54) rfl rfl rfl (by decide +kernel)) (
  mA (i := 33) (ok_gI (pc := 55) rfl (by decide +kernel) wd_717 inw_11 rfl rfl (by decide +kernel)) (
  mA (i := 34) (ok_ild_n (f := 2) (pc := 58) rfl rfl rfl (by decide +kernel)) (
  mA (i := 35) (ok_callI (pc := 59) (can_V cal_N_pastOf (by decide +kernel) rfl (by decide +kernel) rfl wd_703 wd_704 wd_705 wd_605 (by decide +kernel)) rfl rfl) (
  mA (i := 36) (ok_ist (pc := 62) (by decide +kernel) rfl rfl rfl (by decide +kernel)) (
  mA (i := 37) (ok_ild_n (f := 1) (pc := 64) rfl rfl rfl (by decide +kernel)) (
  mA (i := 38) (ok_ist (pc := 65) (by decide +kernel) rfl rfl rfl (by decide +kernel)) (
  mA (i := 39) (ok_ild_n (f := 2) (pc := 67) rfl rfl rfl (by decide +kernel)) (
  mA (i := 40) (ok_ist (pc := 68) (by decide +kernel) rfl rfl rfl (by decide +kernel)) (
  mA (i := 41) (ok_ild (pc := 70) rfl rfl (by decide +kernel)) (
  mA (i := 42) (ok_ild (pc := 72) rfl rfl (by decide +kernel)) (
  mA (i := 43) (ok_cge (off := 190) (pc := 74) (tgt := 264) rfl rfl rfl (by decide +kernel) (by decide +kernel)) (
  mA (i := 44) (ok_ild (pc := 77) rfl rfl (by decide +kernel)) (
  mA (i := 45) (ok_ild (pc := 79) rfl rfl (by decide +kernel)) (
  mA (i := 46) (ok_clt (off := 5) (pc := 81) (tgt := 86) rfl rfl rfl (by decide +kernel) (by decide +kernel)) (
  mA (i := 47) (ok_ic (n := 0) (pc := 84) (by decide +kernel) rfl rfl (by decide +kernel)) (
  mA (i := 48) (ok_zret (pc := 85) rfl rfl (by decide +kernel)) (
  mA (i := 49) (ok_ald_n (f := 0) (pc := 86) rfl rfl rfl (by decide +kernel)) (
  mA (i := 50) (ok_ald_n (f := 0) (pc := 87) rfl rfl rfl (by decide +kernel)) (
  mA (i := 51) (ok_gI (pc := 88) rfl (by decide +kernel) wd_716 inw_11 rfl rfl (by decide +kernel)) (
  mA (i := 52) (ok_ild (pc := 91) rfl rfl (by decide +kernel)) (
  mA (i := 53) (ok_callI (pc := 93) (can_V cal_N_codeAt (by decide +kernel) rfl (by decide +kernel) rfl wd_610 wd_611 wd_612 wd_605 (by decide +kernel)) rfl rfl) (
  mA (i := 54) (ok_ist (pc := 96) (by decide +kernel) rfl rfl rfl (by decide +kernel)) (
  mA (i := 55) (ok_ild (pc := 98) rfl rfl (by decide +kernel)) (
  mA (i := 56) (ok_callI (pc := 100) (can_S cal_N_isVariable (by decide +kernel) wd_709 wd_708 wd_605 (by decide +kernel)) rfl rfl) (
  mA (i := 57) (ok_ifne (off := 26) (pc := 103) (tgt := 129) rfl rfl rfl (by decide +kernel) (by decide +kernel)) (
  mA (i := 58) (ok_ild (pc := 106) rfl rfl (by decide +kernel)) (
  mA (i := 59) (ok_ald_n (f := 0) (pc := 108) rfl rfl rfl (by decide +kernel)) (
  ok_N_matches_t60))))))))))))))))))))))))))))))))))))))))))))))))))))))))))))
set_option maxRecDepth 20000 in
theorem ok_N_isRenaming : mAll (mOk RX10 cX10_isRenaming 6 true false (some .boolean) (mnat p_N_isRenaming)) 0 k_N_isRenaming := mA (i := 0) (ok_ic (n := 0) (pc := 0) (by decide +kernel) rfl rfl (by decide +kernel)) (
  mA (i := 1) (ok_ist_n (f := 2) (pc := 1) rfl (by decide +kernel) rfl rfl rfl (by decide +kernel)) (
  mA (i := 2) (ok_ic (n := 0) (pc := 2) (by decide +kernel) rfl rfl (by decide +kernel)) (
  mA (i := 3) (ok_ist_n (f := 3) (pc := 3) rfl (by decide +kernel) rfl rfl rfl (by decide +kernel)) (
  mA (i := 4) (ok_ild_n (f := 3) (pc := 4) rfl rfl rfl (by decide +kernel)) (
  mA (i := 5) (ok_bi (n := 6) (pc := 5) (by decide +kernel) rfl rfl (by decide +kernel)) (
  mA (i := 6) (ok_cge (off := 76) (pc := 7) (tgt := 83) rfl rfl rfl (by decide +kernel) (by decide +kernel)) (
  mA (i := 7) (ok_ald_n (f := 0) (pc := 10) rfl rfl rfl (by decide +kernel)) (
  mA (i := 8) (ok_gP (pc := 11) rfl (by decide +kernel) wd_583 inw_11 rfl rfl (by decide +kernel)) (
  mA (i := 9) (ok_bi (n := 6) (pc := 14) (by decide +kernel) rfl rfl (by decide +kernel)) (
  mA (i := 10) (ok_ild_n (f := 1) (pc := 16) rfl rfl rfl (by decide +kernel)) (
  mA (i := 11) (ok_mul (pc := 17) rfl rfl (by decide +kernel)) (
  mA (i := 12) (ok_ild_n (f := 3) (pc := 18) rfl rfl rfl (by decide +kernel)) (
  mA (i := 13) (ok_add (pc := 19) rfl rfl (by decide +kernel)) (
  mA (i := 14) (ok_iald (pc := 20) rfl rfl (by decide +kernel)) (
  mA (i := 15) (ok_ist (pc := 21) (by decide +kernel) rfl rfl rfl (by decide +kernel)) (
  mA (i := 16) (ok_ild (pc := 23) rfl rfl (by decide +kernel)) (
  mA (i := 17) (ok_ic (n := (-1)) (pc := 25) (by decide +kernel) rfl rfl (by decide +kernel)) (
  mA (i := 18) (ok_cne (off := 6) (pc := 26) (tgt := 32) rfl rfl rfl (by decide +kernel) (by decide +kernel)) (
  mA (i := 19) (ok_goto (off := 48) (pc := 29) (tgt := 77) rfl rfl (by decide +kernel) (by decide +kernel)) (
  mA (i := 20) (ok_ald_n (f := 0) (pc := 32) rfl rfl rfl (by decide +kernel)) (
  mA (i := 21) (ok_ald_n (f := 0) (pc := 33) rfl rfl rfl (by decide +kernel)) (
  mA (i := 22) (ok_gI (pc := 34) rfl (by decide +kernel) wd_717 inw_11 rfl rfl (by decide +kernel)) (
  mA (i := 23) (ok_ild (pc := 37) rfl rfl (by decide +kernel)) (
  mA (i := 24) (ok_callI (pc := 39) (can_V cal_N_codeAt (by decide +kernel) rfl (by decide +kernel) rfl wd_610 wd_611 wd_612 wd_605 (by decide +kernel)) rfl rfl) (
  mA (i := 25) (ok_ist (pc := 42) (by decide +kernel) rfl rfl rfl (by decide +kernel)) (
  mA (i := 26) (ok_ild (pc := 44) rfl rfl (by decide +kernel)) (
  mA (i := 27) (ok_callI (pc := 46) (can_S cal_N_isVariable (by decide +kernel) wd_709 wd_708 wd_605 (by decide +kernel)) rfl rfl) (
  mA (i := 28) (ok_ifeq (off := 16) (pc := 49) (tgt := 65) rfl rfl rfl (by decide +kernel) (by decide +kernel)) (
  mA (i := 29) (ok_ild_n (f := 2) (pc := 52) rfl rfl rfl (by decide +kernel)) (
  mA (i := 30) (ok_ild (pc := 53) rfl rfl (by decide +kernel)) (
  mA (i := 31) (ok_bi (n := 20) (pc := 55) (by decide +kernel) rfl rfl (by decide +kernel)) (
  mA (i := 32) (ok_sub (pc := 57) rfl rfl (by decide +kernel)) (
  mA (i := 33) (ok_shr (pc := 58) rfl rfl (by decide +kernel)) (
  mA (i := 34) (ok_ic (n := 1) (pc := 59) (by decide +kernel) rfl rfl (by decide +kernel)) (
  mA (i := 35) (ok_and (pc := 60) rfl rfl (by decide +kernel)) (
  mA (i := 36) (ok_ic (n := 1) (pc := 61) (by decide +kernel) rfl rfl (by decide +kernel)) (
  mA (i := 37) (ok_cne (off := 5) (pc := 62) (tgt := 67) rfl rfl rfl (by decide +kernel) (by decide +kernel)) (
  mA (i := 38) (ok_ic (n := 0) (pc := 65) (by decide +kernel) rfl rfl (by decide +kernel)) (
  mA (i := 39) (ok_zret (pc := 66) rfl rfl (by decide +kernel)) (
  mA (i := 40) (ok_ild_n (f := 2) (pc := 67) rfl rfl rfl (by decide +kernel)) (
  mA (i := 41) (ok_ic (n := 1) (pc := 68) (by decide +kernel) rfl rfl (by decide +kernel)) (
  mA (i := 42) (ok_ild (pc := 69) rfl rfl (by decide +kernel)) (
  mA (i := 43) (ok_bi (n := 20) (pc := 71) (by decide +kernel) rfl rfl (by decide +kernel)) (
  mA (i := 44) (ok_sub (pc := 73) rfl rfl (by decide +kernel)) (
  mA (i := 45) (ok_shl (pc := 74) rfl rfl (by decide +kernel)) (
  mA (i := 46) (ok_or (pc := 75) rfl rfl (by decide +kernel)) (
  mA (i := 47) (ok_ist_n (f := 2) (pc := 76) rfl (by decide +kernel) rfl rfl rfl (by decide +kernel)) (
  mA (i := 48) (ok_inc (z := 1) (pc := 77) (by decide +kernel) (by decide +kernel) rfl rfl rfl (by decide +kernel)) (
  mA (i := 49) (ok_goto (off := (-76)) (pc := 80) (tgt := 4) rfl rfl (by decide +kernel) (by decide +kernel)) (
  mA (i := 50) (ok_ic (n := 1) (pc := 83) (by decide +kernel) rfl rfl (by decide +kernel)) (
  mA (i := 51) (ok_zret (pc := 84) rfl rfl (by decide +kernel)) (
  mZ))))))))))))))))))))))))))))))))))))))))))))))))))))
set_option maxRecDepth 20000 in
theorem ok_N_counts : mAll (mOk RX10 cX10_counts 3 true false none (mnat p_N_counts)) 0 k_N_counts := mA (i := 0) (ok_ald_n (f := 0) (pc := 0) rfl rfl rfl (by decide +kernel)) (
  mA (i := 1) (ok_ild_n (f := 1) (pc := 1) rfl rfl rfl (by decide +kernel)) (
  mA (i := 2) (ok_callI (pc := 2) (can_V cal_N_isRenaming (by decide +kernel) rfl (by decide +kernel) rfl wd_718 wd_719 wd_720 wd_605 (by decide +kernel)) rfl rfl) (
  mA (i := 3) (ok_ifeq (off := 13) (pc := 5) (tgt := 18) rfl rfl rfl (by decide +kernel) (by decide +kernel)) (
  mA (i := 4) (ok_ald_n (f := 0) (pc := 8) rfl rfl rfl (by decide +kernel)) (
  mA (i := 5) (ok_dup (pc := 9) rfl rfl (by decide +kernel)) (
  mA (i := 6) (ok_gI (pc := 10) rfl (by decide +kernel) wd_721 inw_11 rfl rfl (by decide +kernel)) (
  mA (i := 7) (ok_ic (n := 1) (pc := 13) (by decide +kernel) rfl rfl (by decide +kernel)) (
  mA (i := 8) (ok_add (pc := 14) rfl rfl (by decide +kernel)) (
  mA (i := 9) (ok_pI (pc := 15) rfl (by decide +kernel) wd_721 inw_11 tyX10_ok nmX10 rfl (by decide +kernel) rfl rfl (by decide +kernel)) (
  mA (i := 10) (ok_ald_n (f := 0) (pc := 18) rfl rfl rfl (by decide +kernel)) (
  mA (i := 11) (ok_gI (pc := 19) rfl (by decide +kernel) wd_722 inw_11 rfl rfl (by decide +kernel)) (
  mA (i := 12) (ok_ifne (off := 59) (pc := 22) (tgt := 81) rfl rfl rfl (by decide +kernel) (by decide +kernel)) (
  mA (i := 13) (ok_ic (n := 0) (pc := 25) (by decide +kernel) rfl rfl (by decide +kernel)) (
  mA (i := 14) (ok_ist_n (f := 2) (pc := 26) rfl (by decide +kernel) rfl rfl rfl (by decide +kernel)) (
  mA (i := 15) (ok_ild_n (f := 2) (pc := 27) rfl rfl rfl (by decide +kernel)) (
  mA (i := 16) (ok_ild_n (f := 1) (pc := 28) rfl rfl rfl (by decide +kernel)) (
  mA (i := 17) (ok_cge (off := 21) (pc := 29) (tgt := 50) rfl rfl rfl (by decide +kernel) (by decide +kernel)) (
  mA (i := 18) (ok_ald_n (f := 0) (pc := 32) rfl rfl rfl (by decide +kernel)) (
  mA (i := 19) (ok_gP (pc := 33) rfl (by decide +kernel) wd_585 inw_11 rfl rfl (by decide +kernel)) (
  mA (i := 20) (ok_ild_n (f := 2) (pc := 36) rfl rfl rfl (by decide +kernel)) (
  mA (i := 21) (ok_ald_n (f := 0) (pc := 37) rfl rfl rfl (by decide +kernel)) (
  mA (i := 22) (ok_gP (pc := 38) rfl (by decide +kernel) wd_584 inw_11 rfl rfl (by decide +kernel)) (
  mA (i := 23) (ok_ild_n (f := 2) (pc := 41) rfl rfl rfl (by decide +kernel)) (
  mA (i := 24) (ok_iald (pc := 42) rfl rfl (by decide +kernel)) (
  mA (i := 25) (ok_iast (pc := 43) rfl rfl (by decide +kernel)) (
  mA (i := 26) (ok_inc (z := 1) (pc := 44) (by decide +kernel) (by decide +kernel) rfl rfl rfl (by decide +kernel)) (
  mA (i := 27) (ok_goto (off := (-20)) (pc := 47) (tgt := 27) rfl rfl (by decide +kernel) (by decide +kernel)) (
  mA (i := 28) (ok_ic (n := 0) (pc := 50) (by decide +kernel) rfl rfl (by decide +kernel)) (
  mA (i := 29) (ok_ist_n (f := 2) (pc := 51) rfl (by decide +kernel) rfl rfl rfl (by decide +kernel)) (
  mA (i := 30) (ok_ild_n (f := 2) (pc := 52) rfl rfl rfl (by decide +kernel)) (
  mA (i := 31) (ok_bi (n := 6) (pc := 53) (by decide +kernel) rfl rfl (by decide +kernel)) (
  mA (i := 32) (ok_cge (off := 26) (pc := 55) (tgt := 81) rfl rfl rfl (by decide +kernel) (by decide +kernel)) (
  mA (i := 33) (ok_ald_n (f := 0) (pc := 58) rfl rfl rfl (by decide +kernel)) (
  mA (i := 34) (ok_gP (pc := 59) rfl (by decide +kernel) wd_586 inw_11 rfl rfl (by decide +kernel)) (
  mA (i := 35) (ok_ild_n (f := 2) (pc := 62) rfl rfl rfl (by decide +kernel)) (
  mA (i := 36) (ok_ald_n (f := 0) (pc := 63) rfl rfl rfl (by decide +kernel)) (
  mA (i := 37) (ok_gP (pc := 64) rfl (by decide +kernel) wd_583 inw_11 rfl rfl (by decide +kernel)) (
  mA (i := 38) (ok_bi (n := 6) (pc := 67) (by decide +kernel) rfl rfl (by decide +kernel)) (
  mA (i := 39) (ok_ild_n (f := 1) (pc := 69) rfl rfl rfl (by decide +kernel)) (
  mA (i := 40) (ok_mul (pc := 70) rfl rfl (by decide +kernel)) (
  mA (i := 41) (ok_ild_n (f := 2) (pc := 71) rfl rfl rfl (by decide +kernel)) (
  mA (i := 42) (ok_add (pc := 72) rfl rfl (by decide +kernel)) (
  mA (i := 43) (ok_iald (pc := 73) rfl rfl (by decide +kernel)) (
  mA (i := 44) (ok_iast (pc := 74) rfl rfl (by decide +kernel)) (
  mA (i := 45) (ok_inc (z := 1) (pc := 75) (by decide +kernel) (by decide +kernel) rfl rfl rfl (by decide +kernel)) (
  mA (i := 46) (ok_goto (off := (-26)) (pc := 78) (tgt := 52) rfl rfl (by decide +kernel) (by decide +kernel)) (
  mA (i := 47) (ok_ald_n (f := 0) (pc := 81) rfl rfl rfl (by decide +kernel)) (
  mA (i := 48) (ok_dup (pc := 82) rfl rfl (by decide +kernel)) (
  mA (i := 49) (ok_gI (pc := 83) rfl (by decide +kernel) wd_722 inw_11 rfl rfl (by decide +kernel)) (
  mA (i := 50) (ok_ic (n := 1) (pc := 86) (by decide +kernel) rfl rfl (by decide +kernel)) (
  mA (i := 51) (ok_add (pc := 87) rfl rfl (by decide +kernel)) (
  mA (i := 52) (ok_pI (pc := 88) rfl (by decide +kernel) wd_722 inw_11 tyX10_ok nmX10 rfl (by decide +kernel) rfl rfl (by decide +kernel)) (
  mA (i := 53) (ok_vret (pc := 91) rfl rfl (by decide +kernel)) (
  mZ))))))))))))))))))))))))))))))))))))))))))))))))))))))
set_option maxRecDepth 20000 in
theorem ok_N_goesWays_t60 : mAll (mOk RX10 cX10_goesWays 5 true false none (mnat p_N_goesWays)) 60 [o_ald 0, o_gP 11 20, o_ild 1, o_ild 3, o_iast, o_ald 0, o_gI 11 26, o_ist 4, o_ald 0, o_dup, o_gI 11 26, o_ic (nI 1), o_ild 3, o_shl, o_or, o_pI 11 26, o_ald 0, o_ild 1, o_ic (nI 1), o_add, o_callV 244 2 11, o_ald 0, o_ild 4, o_pI 11 26, o_inc 3 (nI 1), o_goto 18, o_vret] := mA (i := 60) (ok_ald_n (f := 0) (pc := 108) rfl rfl rfl (by decide +kernel)) (
  mA (i := 61) (ok_gP (pc := 109) rfl (by decide +kernel) wd_584 inw_11 rfl rfl (by decide +kernel)) (
  mA (i := 62) (ok_ild_n (f := 1) (pc := 112) rfl rfl rfl (by decide +kernel)) (
  mA (i := 63) (ok_ild_n (f := 3) (pc := 113) rfl rfl rfl (by decide +kernel)) (
  mA (i := 64) (ok_iast (pc := 114) rfl rfl (by decide +kernel)) (
  mA (i := 65) (ok_ald_n (f := 0) (pc := 115) rfl rfl rfl (by decide +kernel)) (
  mA (i := 66) (ok_gI (pc := 116) rfl (by decide +kernel) wd_729 inw_11 rfl rfl (by decide +kernel)) (
  mA (i := 67) (ok_ist (pc := 119) (by decide +kernel) rfl rfl rfl (by decide +kernel)) (
  mA (i := 68) (ok_ald_n (f := 0) (pc := 121) rfl rfl rfl (by decide +kernel)) (
  mA (i := 69) (ok_dup (pc := 122) rfl rfl (by decide +kernel)) (
  mA (i := 70) (ok_gI (pc := 123) rfl (by decide +kernel) wd_729 inw_11 rfl rfl (by decide +kernel)) (
  mA (i := 71) (ok_ic (n := 1) (pc := 126) (by decide +kernel) rfl rfl (by decide +kernel)) (
  mA (i := 72) (ok_ild_n (f := 3) (pc := 127) rfl rfl rfl (by decide +kernel)) (
  mA (i := 73) (ok_shl (pc := 128) rfl rfl (by decide +kernel)) (
  mA (i := 74) (ok_or (pc := 129) rfl rfl (by decide +kernel)) (
  mA (i := 75) (ok_pI (pc := 130) rfl (by decide +kernel) wd_729 inw_11 tyX10_ok nmX10 rfl (by decide +kernel) rfl rfl (by decide +kernel)) (
  mA (i := 76) (ok_ald_n (f := 0) (pc := 133) rfl rfl rfl (by decide +kernel)) (
  mA (i := 77) (ok_ild_n (f := 1) (pc := 134) rfl rfl rfl (by decide +kernel)) (
  mA (i := 78) (ok_ic (n := 1) (pc := 135) (by decide +kernel) rfl rfl (by decide +kernel)) (
  mA (i := 79) (ok_add (pc := 136) rfl rfl (by decide +kernel)) (
  mA (i := 80) (ok_callV (pc := 137) (can_V cal_N_goesWays (by decide +kernel) rfl (by decide +kernel) rfl wd_733 wd_734 wd_735 wd_605 (by decide +kernel)) rfl rfl) (
  mA (i := 81) (ok_ald_n (f := 0) (pc := 140) rfl rfl rfl (by decide +kernel)) (
  mA (i := 82) (ok_ild (pc := 141) rfl rfl (by decide +kernel)) (
  mA (i := 83) (ok_pI (pc := 143) rfl (by decide +kernel) wd_729 inw_11 tyX10_ok nmX10 rfl (by decide +kernel) rfl rfl (by decide +kernel)) (
  mA (i := 84) (ok_inc (z := 1) (pc := 146) (by decide +kernel) (by decide +kernel) rfl rfl rfl (by decide +kernel)) (
  mA (i := 85) (ok_goto (off := (-119)) (pc := 149) (tgt := 30) rfl rfl (by decide +kernel) (by decide +kernel)) (
  mA (i := 86) (ok_vret (pc := 152) rfl rfl (by decide +kernel)) (
  mZ)))))))))))))))))))))))))))
set_option maxRecDepth 20000 in
theorem ok_N_goesWays : mAll (mOk RX10 cX10_goesWays 5 true false none (mnat p_N_goesWays)) 0 k_N_goesWays := mA (i := 0) (ok_ild_n (f := 1) (pc := 0) rfl rfl rfl (by decide +kernel)) (
  mA (i := 1) (ok_ald_n (f := 0) (pc := 1) rfl rfl rfl (by decide +kernel)) (
  mA (i := 2) (ok_ald_n (f := 0) (pc := 2) rfl rfl rfl (by decide +kernel)) (
  mA (i := 3) (ok_gI (pc := 3) rfl (by decide +kernel) wd_716 inw_11 rfl rfl (by decide +kernel)) (
  mA (i := 4) (ok_callI (pc := 6) (can_V cal_N_literalMany (by decide +kernel) rfl (by decide +kernel) rfl wd_671 wd_672 wd_673 wd_605 (by decide +kernel)) rfl rfl) (
  mA (i := 5) (ok_cne (off := 9) (pc := 9) (tgt := 18) rfl rfl rfl (by decide +kernel) (by decide +kernel)) (
  mA (i := 6) (ok_ald_n (f := 0) (pc := 12) rfl rfl rfl (by decide +kernel)) (
  mA (i := 7) (ok_ild_n (f := 1) (pc := 13) rfl rfl rfl (by decide +kernel)) (
  mA (i := 8) (ok_callV (pc := 14) (can_V cal_N_counts (by decide +kernel) rfl (by decide +kernel) rfl wd_723 wd_724 wd_725 wd_605 (by decide +kernel)) rfl rfl) (
  mA (i := 9) (ok_vret (pc := 17) rfl rfl (by decide +kernel)) (
  mA (i := 10) (ok_ald_n (f := 0) (pc := 18) rfl rfl rfl (by decide +kernel)) (
  mA (i := 11) (ok_ald_n (f := 0) (pc := 19) rfl rfl rfl (by decide +kernel)) (
  mA (i := 12) (ok_gI (pc := 20) rfl (by decide +kernel) wd_716 inw_11 rfl rfl (by decide +kernel)) (
  mA (i := 13) (ok_ild_n (f := 1) (pc := 23) rfl rfl rfl (by decide +kernel)) (
  mA (i := 14) (ok_callI (pc := 24) (can_V cal_N_beginOf (by decide +kernel) rfl (by decide +kernel) rfl wd_700 wd_701 wd_702 wd_605 (by decide +kernel)) rfl rfl) (
  mA (i := 15) (ok_ist_n (f := 2) (pc := 27) rfl (by decide +kernel) rfl rfl rfl (by decide +kernel)) (
  mA (i := 16) (ok_ic (n := 0) (pc := 28) (by decide +kernel) rfl rfl (by decide +kernel)) (
  mA (i := 17) (ok_ist_n (f := 3) (pc := 29) rfl (by decide +kernel) rfl rfl rfl (by decide +kernel)) (
  mA (i := 18) (ok_ild_n (f := 3) (pc := 30) rfl rfl rfl (by decide +kernel)) (
  mA (i := 19) (ok_ald_n (f := 0) (pc := 31) rfl rfl rfl (by decide +kernel)) (
  mA (i := 20) (ok_ald_n (f := 0) (pc := 32) rfl rfl rfl (by decide +kernel)) (
  mA (i := 21) (ok_gI (pc := 33) rfl (by decide +kernel) wd_717 inw_11 rfl rfl (by decide +kernel)) (
  mA (i := 22) (ok_callI (pc := 36) (can_V cal_N_literalMany (by decide +kernel) rfl (by decide +kernel) rfl wd_671 wd_672 wd_673 wd_605 (by decide +kernel)) rfl rfl) (
  mA (i := 23) (ok_cge (off := 113) (pc := 39) (tgt := 152) rfl rfl rfl (by decide +kernel) (by decide +kernel)) (
  mA (i := 24) (ok_ald_n (f := 0) (pc := 42) rfl rfl rfl (by decide +kernel)) (
  mA (i := 25) (ok_gI (pc := 43) rfl (by decide +kernel) wd_722 inw_11 rfl rfl (by decide +kernel)) (
  mA (i := 26) (ok_ald_n (f := 0) (pc := 46) rfl rfl rfl (by decide +kernel)) (
  mA (i := 27) (ok_gI (pc := 47) rfl (by decide +kernel) wd_726 inw_11 rfl rfl (by decide +kernel)) (
  mA (i := 28) (ok_cge (off := 102) (pc := 50) (tgt := 152) rfl rfl rfl (by decide +kernel) (by decide +kernel)) (
  mA (i := 29) (ok_ald_n (f := 0) (pc := 53) rfl rfl rfl (by decide +kernel)) (
  mA (i := 30) (ok_gI (pc := 54) rfl (by decide +kernel) wd_727 inw_11 rfl rfl (by decide +kernel)) (
  mA (i := 31) (ok_ild_n (f := 3) (pc := 57) rfl rfl rfl (by decide +kernel)) (
  mA (i := 32) (ok_shr (pc := 58) rfl rfl (by decide +kernel)) (
  mA (i := 33) (ok_ic (n := 1) (pc := 59) (by decide +kernel) rfl rfl (by decide +kernel)) (
  mA (i := 34) (ok_and (pc := 60) rfl rfl (by decide +kernel)) (
  mA (i := 35) (ok_ifeq (off := 85) (pc := 61) (tgt := 146) rfl rfl rfl (by decide +kernel) (by decide +kernel)) (
  mA (i := 36) (ok_ald_n (f := 0) (pc := 64) rfl rfl rfl (by decide +kernel)) (
  mA (i := 37) (ok_gI (pc := 65) rfl (by decide +kernel) wd_728 inw_11 rfl rfl (by decide +kernel)) (
  mA (i := 38) (ok_ic (n := 1) (pc := 68) (by decide +kernel) rfl rfl (by decide +kernel)) (
  mA (i := 39) (ok_cne (off := 18) (pc := 69) (tgt := 87) rfl rfl rfl (by decide +kernel) (by decide +kernel)) (
  mA (i := 40) (ok_ald_n (f := 0) (pc := 72) rfl rfl rfl (by decide +kernel)) (
  mA (i := 41) (ok_gI (pc := 73) rfl (by decide +kernel) wd_729 inw_11 rfl rfl (by decide +kernel)) (
  mA (i := 42) (ok_ild_n (f := 3) (pc := 76) rfl rfl rfl (by decide +kernel)) (
  mA (i := 43) (ok_shr (pc := 77) rfl rfl (by decide +kernel)) (
  mA (i := 44) (ok_ic (n := 1) (pc := 78) (by decide +kernel) rfl rfl (by decide +kernel)) (
  mA (i := 45) (ok_and (pc := 79) rfl rfl (by decide +kernel)) (
  mA (i := 46) (ok_ic (n := 1) (pc := 80) (by decide +kernel) rfl rfl (by decide +kernel)) (
  mA (i := 47) (ok_cne (off := 6) (pc := 81) (tgt := 87) rfl rfl rfl (by decide +kernel) (by decide +kernel)) (
  mA (i := 48) (ok_goto (off := 62) (pc := 84) (tgt := 146) rfl rfl (by decide +kernel) (by decide +kernel)) (
  mA (i := 49) (ok_ald_n (f := 0) (pc := 87) rfl rfl rfl (by decide +kernel)) (
  mA (i := 50) (ok_ild_n (f := 2) (pc := 88) rfl rfl rfl (by decide +kernel)) (
  mA (i := 51) (ok_ald_n (f := 0) (pc := 89) rfl rfl rfl (by decide +kernel)) (
  mA (i := 52) (ok_ald_n (f := 0) (pc := 90) rfl rfl rfl (by decide +kernel)) (
  mA (i := 53) (ok_gI (pc := 91) rfl (by decide +kernel) wd_717 inw_11 rfl rfl (by decide +kernel)) (
  mA (i := 54) (ok_ild_n (f := 3) (pc := 94) rfl rfl rfl (by decide +kernel)) (
  mA (i := 55) (ok_callI (pc := 95) (can_V cal_N_beginOf (by decide +kernel) rfl (by decide +kernel) rfl wd_700 wd_701 wd_702 wd_605 (by decide +kernel)) rfl rfl) (
  mA (i := 56) (ok_ild_n (f := 1) (pc := 98) rfl rfl rfl (by decide +kernel)) (
  mA (i := 57) (ok_callI (pc := 99) (can_V cal_N_matches (by decide +kernel) rfl (by decide +kernel) rfl wd_730 wd_731 wd_732 wd_605 (by decide +kernel)) rfl rfl) (
  mA (i := 58) (ok_ifne (off := 6) (pc := 102) (tgt := 108) rfl rfl rfl (by decide +kernel) (by decide +kernel)) (
  mA (i := 59) (ok_goto (off := 41) (pc := 105) (tgt := 146) rfl rfl (by decide +kernel) (by decide +kernel)) (
  ok_N_goesWays_t60))))))))))))))))))))))))))))))))))))))))))))))))))))))))))))
set_option maxRecDepth 20000 in
theorem ok_N_waysTo : mAll (mOk RX10 cX10_waysTo 7 true false (some .int) (mnat p_N_waysTo)) 0 k_N_waysTo := mA (i := 0) (ok_ald_n (f := 0) (pc := 0) rfl rfl rfl (by decide +kernel)) (
  mA (i := 1) (ok_ild_n (f := 1) (pc := 1) rfl rfl rfl (by decide +kernel)) (
  mA (i := 2) (ok_pI (pc := 2) rfl (by decide +kernel) wd_716 inw_11 tyX10_ok nmX10 rfl (by decide +kernel) rfl rfl (by decide +kernel)) (
  mA (i := 3) (ok_ald_n (f := 0) (pc := 5) rfl rfl rfl (by decide +kernel)) (
  mA (i := 4) (ok_ild_n (f := 2) (pc := 6) rfl rfl rfl (by decide +kernel)) (
  mA (i := 5) (ok_pI (pc := 7) rfl (by decide +kernel) wd_717 inw_11 tyX10_ok nmX10 rfl (by decide +kernel) rfl rfl (by decide +kernel)) (
  mA (i := 6) (ok_ald_n (f := 0) (pc := 10) rfl rfl rfl (by decide +kernel)) (
  mA (i := 7) (ok_ild_n (f := 3) (pc := 11) rfl rfl rfl (by decide +kernel)) (
  mA (i := 8) (ok_pI (pc := 12) rfl (by decide +kernel) wd_728 inw_11 tyX10_ok nmX10 rfl (by decide +kernel) rfl rfl (by decide +kernel)) (
  mA (i := 9) (ok_ald_n (f := 0) (pc := 15) rfl rfl rfl (by decide +kernel)) (
  mA (i := 10) (ok_ild (pc := 16) rfl rfl (by decide +kernel)) (
  mA (i := 11) (ok_pI (pc := 18) rfl (by decide +kernel) wd_727 inw_11 tyX10_ok nmX10 rfl (by decide +kernel) rfl rfl (by decide +kernel)) (
  mA (i := 12) (ok_ald_n (f := 0) (pc := 21) rfl rfl rfl (by decide +kernel)) (
  mA (i := 13) (ok_ild (pc := 22) rfl rfl (by decide +kernel)) (
  mA (i := 14) (ok_pI (pc := 24) rfl (by decide +kernel) wd_726 inw_11 tyX10_ok nmX10 rfl (by decide +kernel) rfl rfl (by decide +kernel)) (
  mA (i := 15) (ok_ald_n (f := 0) (pc := 27) rfl rfl rfl (by decide +kernel)) (
  mA (i := 16) (ok_ic (n := 0) (pc := 28) (by decide +kernel) rfl rfl (by decide +kernel)) (
  mA (i := 17) (ok_pI (pc := 29) rfl (by decide +kernel) wd_722 inw_11 tyX10_ok nmX10 rfl (by decide +kernel) rfl rfl (by decide +kernel)) (
  mA (i := 18) (ok_ald_n (f := 0) (pc := 32) rfl rfl rfl (by decide +kernel)) (
  mA (i := 19) (ok_ic (n := 0) (pc := 33) (by decide +kernel) rfl rfl (by decide +kernel)) (
  mA (i := 20) (ok_pI (pc := 34) rfl (by decide +kernel) wd_721 inw_11 tyX10_ok nmX10 rfl (by decide +kernel) rfl rfl (by decide +kernel)) (
  mA (i := 21) (ok_ald_n (f := 0) (pc := 37) rfl rfl rfl (by decide +kernel)) (
  mA (i := 22) (ok_ic (n := 0) (pc := 38) (by decide +kernel) rfl rfl (by decide +kernel)) (
  mA (i := 23) (ok_pI (pc := 39) rfl (by decide +kernel) wd_729 inw_11 tyX10_ok nmX10 rfl (by decide +kernel) rfl rfl (by decide +kernel)) (
  mA (i := 24) (ok_ic (n := 0) (pc := 42) (by decide +kernel) rfl rfl (by decide +kernel)) (
  mA (i := 25) (ok_ist (pc := 43) (by decide +kernel) rfl rfl rfl (by decide +kernel)) (
  mA (i := 26) (ok_ild (pc := 45) rfl rfl (by decide +kernel)) (
  mA (i := 27) (ok_bi (n := 6) (pc := 47) (by decide +kernel) rfl rfl (by decide +kernel)) (
  mA (i := 28) (ok_cge (off := 17) (pc := 49) (tgt := 66) rfl rfl rfl (by decide +kernel) (by decide +kernel)) (
  mA (i := 29) (ok_ald_n (f := 0) (pc := 52) rfl rfl rfl (by decide +kernel)) (
  mA (i := 30) (ok_gP (pc := 53) rfl (by decide +kernel) wd_583 inw_11 rfl rfl (by decide +kernel)) (
  mA (i := 31) (ok_ild (pc := 56) rfl rfl (by decide +kernel)) (
  mA (i := 32) (ok_ic (n := (-1)) (pc := 58) (by decide +kernel) rfl rfl (by decide +kernel)) (
  mA (i := 33) (ok_iast (pc := 59) rfl rfl (by decide +kernel)) (
  mA (i := 34) (ok_inc (z := 1) (pc := 60) (by decide +kernel) (by decide +kernel) rfl rfl rfl (by decide +kernel)) (
  mA (i := 35) (ok_goto (off := (-18)) (pc := 63) (tgt := 45) rfl rfl (by decide +kernel) (by decide +kernel)) (
  mA (i := 36) (ok_ald_n (f := 0) (pc := 66) rfl rfl rfl (by decide +kernel)) (
  mA (i := 37) (ok_ic (n := 0) (pc := 67) (by decide +kernel) rfl rfl (by decide +kernel)) (
  mA (i := 38) (ok_callV (pc := 68) (can_V cal_N_goesWays (by decide +kernel) rfl (by decide +kernel) rfl wd_733 wd_734 wd_735 wd_605 (by decide +kernel)) rfl rfl) (
  mA (i := 39) (ok_ald_n (f := 0) (pc := 71) rfl rfl rfl (by decide +kernel)) (
  mA (i := 40) (ok_gI (pc := 72) rfl (by decide +kernel) wd_722 inw_11 rfl rfl (by decide +kernel)) (
  mA (i := 41) (ok_iret (pc := 75) rfl rfl (by decide +kernel)) (
  mZ))))))))))))))))))))))))))))))))))))))))))
set_option maxRecDepth 20000 in
theorem ok_N_doesCover : mAll (mOk RX10 cX10_doesCover 4 true false (some .boolean) (mnat p_N_doesCover)) 0 k_N_doesCover := mA (i := 0) (ok_ald_n (f := 0) (pc := 0) rfl rfl rfl (by decide +kernel)) (
  mA (i := 1) (ok_ild_n (f := 1) (pc := 1) rfl rfl rfl (by decide +kernel)) (
  mA (i := 2) (ok_ild_n (f := 2) (pc := 2) rfl rfl rfl (by decide +kernel)) (
  mA (i := 3) (ok_ild_n (f := 3) (pc := 3) rfl rfl rfl (by decide +kernel)) (
  mA (i := 4) (ok_bi (n := 31) (pc := 4) (by decide +kernel) rfl rfl (by decide +kernel)) (
  mA (i := 5) (ok_ic (n := 1) (pc := 6) (by decide +kernel) rfl rfl (by decide +kernel)) (
  mA (i := 6) (ok_callI (pc := 7) (can_V cal_N_waysTo (by decide +kernel) rfl (by decide +kernel) rfl wd_736 wd_737 wd_738 wd_605 (by decide +kernel)) rfl rfl) (
  mA (i := 7) (ok_ifle (off := 7) (pc := 10) (tgt := 17) rfl rfl rfl (by decide +kernel) (by decide +kernel)) (
  mA (i := 8) (ok_ic (n := 1) (pc := 13) (by decide +kernel) rfl rfl (by decide +kernel)) (
  mA (i := 9) (ok_goto (off := 4) (pc := 14) (tgt := 18) rfl rfl (by decide +kernel) (by decide +kernel)) (
  mA (i := 10) (ok_ic (n := 0) (pc := 17) (by decide +kernel) rfl rfl (by decide +kernel)) (
  mA (i := 11) (ok_zret (pc := 18) rfl rfl (by decide +kernel)) (
  mZ))))))))))))
set_option maxRecDepth 20000 in
theorem ok_N_areAlike : mAll (mOk RX10 cX10_areAlike 3 true false (some .boolean) (mnat p_N_areAlike)) 0 k_N_areAlike := mA (i := 0) (ok_ald_n (f := 0) (pc := 0) rfl rfl rfl (by decide +kernel)) (
  mA (i := 1) (ok_ild_n (f := 1) (pc := 1) rfl rfl rfl (by decide +kernel)) (
  mA (i := 2) (ok_callI (pc := 2) (can_V cal_N_literalMany (by decide +kernel) rfl (by decide +kernel) rfl wd_671 wd_672 wd_673 wd_605 (by decide +kernel)) rfl rfl) (
  mA (i := 3) (ok_ald_n (f := 0) (pc := 5) rfl rfl rfl (by decide +kernel)) (
  mA (i := 4) (ok_ild_n (f := 2) (pc := 6) rfl rfl rfl (by decide +kernel)) (
  mA (i := 5) (ok_callI (pc := 7) (can_V cal_N_literalMany (by decide +kernel) rfl (by decide +kernel) rfl wd_671 wd_672 wd_673 wd_605 (by decide +kernel)) rfl rfl) (
  mA (i := 6) (ok_ceq (off := 5) (pc := 10) (tgt := 15) rfl rfl rfl (by decide +kernel) (by decide +kernel)) (
  mA (i := 7) (ok_ic (n := 0) (pc := 13) (by decide +kernel) rfl rfl (by decide +kernel)) (
  mA (i := 8) (ok_zret (pc := 14) rfl rfl (by decide +kernel)) (
  mA (i := 9) (ok_ald_n (f := 0) (pc := 15) rfl rfl rfl (by decide +kernel)) (
  mA (i := 10) (ok_ild_n (f := 1) (pc := 16) rfl rfl rfl (by decide +kernel)) (
  mA (i := 11) (ok_ild_n (f := 2) (pc := 17) rfl rfl rfl (by decide +kernel)) (
  mA (i := 12) (ok_ic (n := 1) (pc := 18) (by decide +kernel) rfl rfl (by decide +kernel)) (
  mA (i := 13) (ok_bi (n := 31) (pc := 19) (by decide +kernel) rfl rfl (by decide +kernel)) (
  mA (i := 14) (ok_ldcw (pc := 21) wd_739 rfl rfl (by decide +kernel)) (
  mA (i := 15) (ok_callI (pc := 24) (can_V cal_N_waysTo (by decide +kernel) rfl (by decide +kernel) rfl wd_736 wd_737 wd_738 wd_605 (by decide +kernel)) rfl rfl) (
  mA (i := 16) (ok_pop (pc := 27) rfl rfl (by decide +kernel)) (
  mA (i := 17) (ok_ald_n (f := 0) (pc := 28) rfl rfl rfl (by decide +kernel)) (
  mA (i := 18) (ok_gI (pc := 29) rfl (by decide +kernel) wd_721 inw_11 rfl rfl (by decide +kernel)) (
  mA (i := 19) (ok_ifle (off := 7) (pc := 32) (tgt := 39) rfl rfl rfl (by decide +kernel) (by decide +kernel)) (
  mA (i := 20) (ok_ic (n := 1) (pc := 35) (by decide +kernel) rfl rfl (by decide +kernel)) (
  mA (i := 21) (ok_goto (off := 4) (pc := 36) (tgt := 40) rfl rfl (by decide +kernel) (by decide +kernel)) (
  mA (i := 22) (ok_ic (n := 0) (pc := 39) (by decide +kernel) rfl rfl (by decide +kernel)) (
  mA (i := 23) (ok_zret (pc := 40) rfl rfl (by decide +kernel)) (
  mZ))))))))))))))))))))))))
set_option maxRecDepth 20000 in
theorem ok_N_isMode : mAll (mOk RX10 cX10_isMode 1 true false (some .boolean) (mnat p_N_isMode)) 0 k_N_isMode := mA (i := 0) (ok_ild_n (f := 0) (pc := 0) rfl rfl rfl (by decide +kernel)) (
  mA (i := 1) (ok_i2l (pc := 1) rfl rfl (by decide +kernel)) (
  mA (i := 2) (ok_lc (n := 0) (pc := 2) (by decide +kernel) rfl rfl (by decide +kernel)) (
  mA (i := 3) (ok_lc (n := 1) (pc := 3) (by decide +kernel) rfl rfl (by decide +kernel)) (
  mA (i := 4) (ok_callI (pc := 4) (can_S cal_N_within (by decide +kernel) wd_606 wd_604 wd_605 (by decide +kernel)) rfl rfl) (
  mA (i := 5) (ok_zret (pc := 7) rfl rfl (by decide +kernel)) (
  mZ))))))
set_option maxRecDepth 20000 in
theorem ok_N_areTold : mAll (mOk RX10 cX10_areTold 4 true false (some .boolean) (mnat p_N_areTold)) 0 k_N_areTold := mA (i := 0) (ok_ald_n (f := 0) (pc := 0) rfl rfl rfl (by decide +kernel)) (
  mA (i := 1) (ok_ild_n (f := 1) (pc := 1) rfl rfl rfl (by decide +kernel)) (
  mA (i := 2) (ok_callI (pc := 2) (can_V cal_N_isClause (by decide +kernel) rfl (by decide +kernel) rfl wd_607 wd_608 wd_609 wd_605 (by decide +kernel)) rfl rfl) (
  mA (i := 3) (ok_ifeq (off := 22) (pc := 5) (tgt := 27) rfl rfl rfl (by decide +kernel) (by decide +kernel)) (
  mA (i := 4) (ok_ald_n (f := 0) (pc := 8) rfl rfl rfl (by decide +kernel)) (
  mA (i := 5) (ok_ild_n (f := 2) (pc := 9) rfl rfl rfl (by decide +kernel)) (
  mA (i := 6) (ok_callI (pc := 10) (can_V cal_N_isClause (by decide +kernel) rfl (by decide +kernel) rfl wd_607 wd_608 wd_609 wd_605 (by decide +kernel)) rfl rfl) (
  mA (i := 7) (ok_ifeq (off := 14) (pc := 13) (tgt := 27) rfl rfl rfl (by decide +kernel) (by decide +kernel)) (
  mA (i := 8) (ok_ild_n (f := 3) (pc := 16) rfl rfl rfl (by decide +kernel)) (
  mA (i := 9) (ok_callI (pc := 17) (can_S cal_N_isMode (by decide +kernel) wd_741 wd_740 wd_605 (by decide +kernel)) rfl rfl) (
  mA (i := 10) (ok_ifeq (off := 7) (pc := 20) (tgt := 27) rfl rfl rfl (by decide +kernel) (by decide +kernel)) (
  mA (i := 11) (ok_ic (n := 1) (pc := 23) (by decide +kernel) rfl rfl (by decide +kernel)) (
  mA (i := 12) (ok_goto (off := 4) (pc := 24) (tgt := 28) rfl rfl (by decide +kernel) (by decide +kernel)) (
  mA (i := 13) (ok_ic (n := 0) (pc := 27) (by decide +kernel) rfl rfl (by decide +kernel)) (
  mA (i := 14) (ok_zret (pc := 28) rfl rfl (by decide +kernel)) (
  mZ)))))))))))))))
set_option maxRecDepth 20000 in
theorem ok_N_covers : mAll (mOk RX10 cX10_covers 4 true false (some .int) (mnat p_N_covers)) 0 k_N_covers := mA (i := 0) (ok_ald_n (f := 0) (pc := 0) rfl rfl rfl (by decide +kernel)) (
  mA (i := 1) (ok_ic (n := 0) (pc := 1) (by decide +kernel) rfl rfl (by decide +kernel)) (
  mA (i := 2) (ok_pI (pc := 2) rfl (by decide +kernel) wd_618 inw_11 tyX10_ok nmX10 rfl (by decide +kernel) rfl rfl (by decide +kernel)) (
  mA (i := 3) (ok_ald_n (f := 0) (pc := 5) rfl rfl rfl (by decide +kernel)) (
  mA (i := 4) (ok_ild_n (f := 1) (pc := 6) rfl rfl rfl (by decide +kernel)) (
  mA (i := 5) (ok_ild_n (f := 2) (pc := 7) rfl rfl rfl (by decide +kernel)) (
  mA (i := 6) (ok_ild_n (f := 3) (pc := 8) rfl rfl rfl (by decide +kernel)) (
  mA (i := 7) (ok_callI (pc := 9) (can_V cal_N_areTold (by decide +kernel) rfl (by decide +kernel) rfl wd_742 wd_743 wd_744 wd_605 (by decide +kernel)) rfl rfl) (
  mA (i := 8) (ok_ifne (off := 6) (pc := 12) (tgt := 18) rfl rfl rfl (by decide +kernel) (by decide +kernel)) (
  mA (i := 9) (ok_bi (n := (-2)) (pc := 15) (by decide +kernel) rfl rfl (by decide +kernel)) (
  mA (i := 10) (ok_iret (pc := 17) rfl rfl (by decide +kernel)) (
  mA (i := 11) (ok_ald_n (f := 0) (pc := 18) rfl rfl rfl (by decide +kernel)) (
  mA (i := 12) (ok_ild_n (f := 1) (pc := 19) rfl rfl rfl (by decide +kernel)) (
  mA (i := 13) (ok_ild_n (f := 2) (pc := 20) rfl rfl rfl (by decide +kernel)) (
  mA (i := 14) (ok_ild_n (f := 3) (pc := 21) rfl rfl rfl (by decide +kernel)) (
  mA (i := 15) (ok_callI (pc := 22) (can_V cal_N_doesCover (by decide +kernel) rfl (by decide +kernel) rfl wd_745 wd_746 wd_747 wd_605 (by decide +kernel)) rfl rfl) (
  mA (i := 16) (ok_ifeq (off := 7) (pc := 25) (tgt := 32) rfl rfl rfl (by decide +kernel) (by decide +kernel)) (
  mA (i := 17) (ok_ic (n := 1) (pc := 28) (by decide +kernel) rfl rfl (by decide +kernel)) (
  mA (i := 18) (ok_goto (off := 4) (pc := 29) (tgt := 33) rfl rfl (by decide +kernel) (by decide +kernel)) (
  mA (i := 19) (ok_ic (n := 0) (pc := 32) (by decide +kernel) rfl rfl (by decide +kernel)) (
  mA (i := 20) (ok_iret (pc := 33) rfl rfl (by decide +kernel)) (
  mZ)))))))))))))))))))))
set_option maxRecDepth 20000 in
theorem ok_N_ways : mAll (mOk RX10 cX10_ways 4 true false (some .int) (mnat p_N_ways)) 0 k_N_ways := mA (i := 0) (ok_ald_n (f := 0) (pc := 0) rfl rfl rfl (by decide +kernel)) (
  mA (i := 1) (ok_ic (n := 0) (pc := 1) (by decide +kernel) rfl rfl (by decide +kernel)) (
  mA (i := 2) (ok_pI (pc := 2) rfl (by decide +kernel) wd_618 inw_11 tyX10_ok nmX10 rfl (by decide +kernel) rfl rfl (by decide +kernel)) (
  mA (i := 3) (ok_ald_n (f := 0) (pc := 5) rfl rfl rfl (by decide +kernel)) (
  mA (i := 4) (ok_ild_n (f := 1) (pc := 6) rfl rfl rfl (by decide +kernel)) (
  mA (i := 5) (ok_ild_n (f := 2) (pc := 7) rfl rfl rfl (by decide +kernel)) (
  mA (i := 6) (ok_ild_n (f := 3) (pc := 8) rfl rfl rfl (by decide +kernel)) (
  mA (i := 7) (ok_callI (pc := 9) (can_V cal_N_areTold (by decide +kernel) rfl (by decide +kernel) rfl wd_742 wd_743 wd_744 wd_605 (by decide +kernel)) rfl rfl) (
  mA (i := 8) (ok_ifeq (off := 18) (pc := 12) (tgt := 30) rfl rfl rfl (by decide +kernel) (by decide +kernel)) (
  mA (i := 9) (ok_ald_n (f := 0) (pc := 15) rfl rfl rfl (by decide +kernel)) (
  mA (i := 10) (ok_ild_n (f := 1) (pc := 16) rfl rfl rfl (by decide +kernel)) (
  mA (i := 11) (ok_ild_n (f := 2) (pc := 17) rfl rfl rfl (by decide +kernel)) (
  mA (i := 12) (ok_ild_n (f := 3) (pc := 18) rfl rfl rfl (by decide +kernel)) (
  mA (i := 13) (ok_bi (n := 31) (pc := 19) (by decide +kernel) rfl rfl (by decide +kernel)) (
  mA (i := 14) (ok_ldcw (pc := 21) wd_739 rfl rfl (by decide +kernel)) (
  mA (i := 15) (ok_callI (pc := 24) (can_V cal_N_waysTo (by decide +kernel) rfl (by decide +kernel) rfl wd_736 wd_737 wd_738 wd_605 (by decide +kernel)) rfl rfl) (
  mA (i := 16) (ok_goto (off := 5) (pc := 27) (tgt := 32) rfl rfl (by decide +kernel) (by decide +kernel)) (
  mA (i := 17) (ok_bi (n := (-2)) (pc := 30) (by decide +kernel) rfl rfl (by decide +kernel)) (
  mA (i := 18) (ok_iret (pc := 32) rfl rfl (by decide +kernel)) (
  mZ)))))))))))))))))))
set_option maxRecDepth 20000 in
theorem ok_N_way : mAll (mOk RX10 cX10_way 5 true false (some .int) (mnat p_N_way)) 0 k_N_way := mA (i := 0) (ok_ald_n (f := 0) (pc := 0) rfl rfl rfl (by decide +kernel)) (
  mA (i := 1) (ok_ic (n := 0) (pc := 1) (by decide +kernel) rfl rfl (by decide +kernel)) (
  mA (i := 2) (ok_pI (pc := 2) rfl (by decide +kernel) wd_618 inw_11 tyX10_ok nmX10 rfl (by decide +kernel) rfl rfl (by decide +kernel)) (
  mA (i := 3) (ok_ald_n (f := 0) (pc := 5) rfl rfl rfl (by decide +kernel)) (
  mA (i := 4) (ok_ild_n (f := 1) (pc := 6) rfl rfl rfl (by decide +kernel)) (
  mA (i := 5) (ok_ild_n (f := 2) (pc := 7) rfl rfl rfl (by decide +kernel)) (
  mA (i := 6) (ok_ild_n (f := 3) (pc := 8) rfl rfl rfl (by decide +kernel)) (
  mA (i := 7) (ok_callI (pc := 9) (can_V cal_N_areTold (by decide +kernel) rfl (by decide +kernel) rfl wd_742 wd_743 wd_744 wd_605 (by decide +kernel)) rfl rfl) (
  mA (i := 8) (ok_ifeq (off := 21) (pc := 12) (tgt := 33) rfl rfl rfl (by decide +kernel) (by decide +kernel)) (
  mA (i := 9) (ok_ild (pc := 15) rfl rfl (by decide +kernel)) (
  mA (i := 10) (ok_i2l (pc := 17) rfl rfl (by decide +kernel)) (
  mA (i := 11) (ok_lc (n := 0) (pc := 18) (by decide +kernel) rfl rfl (by decide +kernel)) (
  mA (i := 12) (ok_ald_n (f := 0) (pc := 19) rfl rfl rfl (by decide +kernel)) (
  mA (i := 13) (ok_ild_n (f := 1) (pc := 20) rfl rfl rfl (by decide +kernel)) (
  mA (i := 14) (ok_callI (pc := 21) (can_V cal_N_literalMany (by decide +kernel) rfl (by decide +kernel) rfl wd_671 wd_672 wd_673 wd_605 (by decide +kernel)) rfl rfl) (
  mA (i := 15) (ok_ic (n := 1) (pc := 24) (by decide +kernel) rfl rfl (by decide +kernel)) (
  mA (i := 16) (ok_sub (pc := 25) rfl rfl (by decide +kernel)) (
  mA (i := 17) (ok_i2l (pc := 26) rfl rfl (by decide +kernel)) (
  mA (i := 18) (ok_callI (pc := 27) (can_S cal_N_within (by decide +kernel) wd_606 wd_604 wd_605 (by decide +kernel)) rfl rfl) (
  mA (i := 19) (ok_ifne (off := 6) (pc := 30) (tgt := 36) rfl rfl rfl (by decide +kernel) (by decide +kernel)) (
  mA (i := 20) (ok_bi (n := (-2)) (pc := 33) (by decide +kernel) rfl rfl (by decide +kernel)) (
  mA (i := 21) (ok_iret (pc := 35) rfl rfl (by decide +kernel)) (
  mA (i := 22) (ok_ald_n (f := 0) (pc := 36) rfl rfl rfl (by decide +kernel)) (
  mA (i := 23) (ok_ild_n (f := 1) (pc := 37) rfl rfl rfl (by decide +kernel)) (
  mA (i := 24) (ok_ild_n (f := 2) (pc := 38) rfl rfl rfl (by decide +kernel)) (
  mA (i := 25) (ok_ild_n (f := 3) (pc := 39) rfl rfl rfl (by decide +kernel)) (
  mA (i := 26) (ok_callI (pc := 40) (can_V cal_N_doesCover (by decide +kernel) rfl (by decide +kernel) rfl wd_745 wd_746 wd_747 wd_605 (by decide +kernel)) rfl rfl) (
  mA (i := 27) (ok_ifeq (off := 13) (pc := 43) (tgt := 56) rfl rfl rfl (by decide +kernel) (by decide +kernel)) (
  mA (i := 28) (ok_ald_n (f := 0) (pc := 46) rfl rfl rfl (by decide +kernel)) (
  mA (i := 29) (ok_gP (pc := 47) rfl (by decide +kernel) wd_585 inw_11 rfl rfl (by decide +kernel)) (
  mA (i := 30) (ok_ild (pc := 50) rfl rfl (by decide +kernel)) (
  mA (i := 31) (ok_iald (pc := 52) rfl rfl (by decide +kernel)) (
  mA (i := 32) (ok_goto (off := 4) (pc := 53) (tgt := 57) rfl rfl (by decide +kernel) (by decide +kernel)) (
  mA (i := 33) (ok_ic (n := (-1)) (pc := 56) (by decide +kernel) rfl rfl (by decide +kernel)) (
  mA (i := 34) (ok_iret (pc := 57) rfl rfl (by decide +kernel)) (
  mZ)))))))))))))))))))))))))))))))))))
set_option maxRecDepth 20000 in
theorem ok_N_bound_t60 : mAll (mOk RX10 cX10_bound 7 true false (some .int) (mnat p_N_bound)) 60 [o_gP 11 22, o_ild 4, o_ald4 21, o_ild 5, o_add, o_callI 196 3 11, o_goto 68, o_ic ((-1)), o_iret] := mA (i := 60) (ok_gP (pc := 104) rfl (by decide +kernel) wd_586 inw_11 rfl rfl (by decide +kernel)) (
  mA (i := 61) (ok_ild (pc := 107) rfl rfl (by decide +kernel)) (
  mA (i := 62) (ok_iald (pc := 109) rfl rfl (by decide +kernel)) (
  mA (i := 63) (ok_ild (pc := 110) rfl rfl (by decide +kernel)) (
  mA (i := 64) (ok_add (pc := 112) rfl rfl (by decide +kernel)) (
  mA (i := 65) (ok_callI (pc := 113) (can_V cal_N_codeAt (by decide +kernel) rfl (by decide +kernel) rfl wd_610 wd_611 wd_612 wd_605 (by decide +kernel)) rfl rfl) (
  mA (i := 66) (ok_goto (off := 4) (pc := 116) (tgt := 120) rfl rfl (by decide +kernel) (by decide +kernel)) (
  mA (i := 67) (ok_ic (n := (-1)) (pc := 119) (by decide +kernel) rfl rfl (by decide +kernel)) (
  mA (i := 68) (ok_iret (pc := 120) rfl rfl (by decide +kernel)) (
  mZ)))))))))
set_option maxRecDepth 20000 in
theorem ok_N_bound : mAll (mOk RX10 cX10_bound 7 true false (some .int) (mnat p_N_bound)) 0 k_N_bound := mA (i := 0) (ok_ald_n (f := 0) (pc := 0) rfl rfl rfl (by decide +kernel)) (
  mA (i := 1) (ok_ic (n := 0) (pc := 1) (by decide +kernel) rfl rfl (by decide +kernel)) (
  mA (i := 2) (ok_pI (pc := 2) rfl (by decide +kernel) wd_618 inw_11 tyX10_ok nmX10 rfl (by decide +kernel) rfl rfl (by decide +kernel)) (
  mA (i := 3) (ok_ald_n (f := 0) (pc := 5) rfl rfl rfl (by decide +kernel)) (
  mA (i := 4) (ok_ild_n (f := 1) (pc := 6) rfl rfl rfl (by decide +kernel)) (
  mA (i := 5) (ok_ild_n (f := 2) (pc := 7) rfl rfl rfl (by decide +kernel)) (
  mA (i := 6) (ok_ild_n (f := 3) (pc := 8) rfl rfl rfl (by decide +kernel)) (
  mA (i := 7) (ok_callI (pc := 9) (can_V cal_N_areTold (by decide +kernel) rfl (by decide +kernel) rfl wd_742 wd_743 wd_744 wd_605 (by decide +kernel)) rfl rfl) (
  mA (i := 8) (ok_ifeq (off := 16) (pc := 12) (tgt := 28) rfl rfl rfl (by decide +kernel) (by decide +kernel)) (
  mA (i := 9) (ok_ild (pc := 15) rfl rfl (by decide +kernel)) (
  mA (i := 10) (ok_i2l (pc := 17) rfl rfl (by decide +kernel)) (
  mA (i := 11) (ok_lc (n := 0) (pc := 18) (by decide +kernel) rfl rfl (by decide +kernel)) (
  mA (i := 12) (ok_ldc2 (pc := 19) wd_748 rfl rfl (by decide +kernel)) (
  mA (i := 13) (ok_callI (pc := 22) (can_S cal_N_within (by decide +kernel) wd_606 wd_604 wd_605 (by decide +kernel)) rfl rfl) (
  mA (i := 14) (ok_ifne (off := 6) (pc := 25) (tgt := 31) rfl rfl rfl (by decide +kernel) (by decide +kernel)) (
  mA (i := 15) (ok_bi (n := (-2)) (pc := 28) (by decide +kernel) rfl rfl (by decide +kernel)) (
  mA (i := 16) (ok_iret (pc := 30) rfl rfl (by decide +kernel)) (
  mA (i := 17) (ok_ild (pc := 31) rfl rfl (by decide +kernel)) (
  mA (i := 18) (ok_ic (n := (-1)) (pc := 33) (by decide +kernel) rfl rfl (by decide +kernel)) (
  mA (i := 19) (ok_cge (off := 6) (pc := 34) (tgt := 40) rfl rfl rfl (by decide +kernel) (by decide +kernel)) (
  mA (i := 20) (ok_bi (n := (-3)) (pc := 37) (by decide +kernel) rfl rfl (by decide +kernel)) (
  mA (i := 21) (ok_iret (pc := 39) rfl rfl (by decide +kernel)) (
  mA (i := 22) (ok_ald_n (f := 0) (pc := 40) rfl rfl rfl (by decide +kernel)) (
  mA (i := 23) (ok_ild_n (f := 1) (pc := 41) rfl rfl rfl (by decide +kernel)) (
  mA (i := 24) (ok_ild_n (f := 2) (pc := 42) rfl rfl rfl (by decide +kernel)) (
  mA (i := 25) (ok_ild_n (f := 3) (pc := 43) rfl rfl rfl (by decide +kernel)) (
  mA (i := 26) (ok_callI (pc := 44) (can_V cal_N_doesCover (by decide +kernel) rfl (by decide +kernel) rfl wd_745 wd_746 wd_747 wd_605 (by decide +kernel)) rfl rfl) (
  mA (i := 27) (ok_ifeq (off := 14) (pc := 47) (tgt := 61) rfl rfl rfl (by decide +kernel) (by decide +kernel)) (
  mA (i := 28) (ok_ald_n (f := 0) (pc := 50) rfl rfl rfl (by decide +kernel)) (
  mA (i := 29) (ok_gP (pc := 51) rfl (by decide +kernel) wd_586 inw_11 rfl rfl (by decide +kernel)) (
  mA (i := 30) (ok_ild (pc := 54) rfl rfl (by decide +kernel)) (
  mA (i := 31) (ok_iald (pc := 56) rfl rfl (by decide +kernel)) (
  mA (i := 32) (ok_ic (n := (-1)) (pc := 57) (by decide +kernel) rfl rfl (by decide +kernel)) (
  mA (i := 33) (ok_cne (off := 5) (pc := 58) (tgt := 63) rfl rfl rfl (by decide +kernel) (by decide +kernel)) (
  mA (i := 34) (ok_ic (n := (-1)) (pc := 61) (by decide +kernel) rfl rfl (by decide +kernel)) (
  mA (i := 35) (ok_iret (pc := 62) rfl rfl (by decide +kernel)) (
  mA (i := 36) (ok_ald_n (f := 0) (pc := 63) rfl rfl rfl (by decide +kernel)) (
  mA (i := 37) (ok_ild_n (f := 2) (pc := 64) rfl rfl rfl (by decide +kernel)) (
  mA (i := 38) (ok_ald_n (f := 0) (pc := 65) rfl rfl rfl (by decide +kernel)) (
  mA (i := 39) (ok_gP (pc := 66) rfl (by decide +kernel) wd_586 inw_11 rfl rfl (by decide +kernel)) (
  mA (i := 40) (ok_ild (pc := 69) rfl rfl (by decide +kernel)) (
  mA (i := 41) (ok_iald (pc := 71) rfl rfl (by decide +kernel)) (
  mA (i := 42) (ok_callI (pc := 72) (can_V cal_N_pastOf (by decide +kernel) rfl (by decide +kernel) rfl wd_703 wd_704 wd_705 wd_605 (by decide +kernel)) rfl rfl) (
  mA (i := 43) (ok_ald_n (f := 0) (pc := 75) rfl rfl rfl (by decide +kernel)) (
  mA (i := 44) (ok_gP (pc := 76) rfl (by decide +kernel) wd_586 inw_11 rfl rfl (by decide +kernel)) (
  mA (i := 45) (ok_ild (pc := 79) rfl rfl (by decide +kernel)) (
  mA (i := 46) (ok_iald (pc := 81) rfl rfl (by decide +kernel)) (
  mA (i := 47) (ok_sub (pc := 82) rfl rfl (by decide +kernel)) (
  mA (i := 48) (ok_ist (pc := 83) (by decide +kernel) rfl rfl rfl (by decide +kernel)) (
  mA (i := 49) (ok_ild (pc := 85) rfl rfl (by decide +kernel)) (
  mA (i := 50) (ok_ic (n := (-1)) (pc := 87) (by decide +kernel) rfl rfl (by decide +kernel)) (
  mA (i := 51) (ok_cne (off := 6) (pc := 88) (tgt := 94) rfl rfl rfl (by decide +kernel) (by decide +kernel)) (
  mA (i := 52) (ok_ild (pc := 91) rfl rfl (by decide +kernel)) (
  mA (i := 53) (ok_iret (pc := 93) rfl rfl (by decide +kernel)) (
  mA (i := 54) (ok_ild (pc := 94) rfl rfl (by decide +kernel)) (
  mA (i := 55) (ok_ild (pc := 96) rfl rfl (by decide +kernel)) (
  mA (i := 56) (ok_cge (off := 21) (pc := 98) (tgt := 119) rfl rfl rfl (by decide +kernel) (by decide +kernel)) (
  mA (i := 57) (ok_ald_n (f := 0) (pc := 101) rfl rfl rfl (by decide +kernel)) (
  mA (i := 58) (ok_ild_n (f := 2) (pc := 102) rfl rfl rfl (by decide +kernel)) (
  mA (i := 59) (ok_ald_n (f := 0) (pc := 103) rfl rfl rfl (by decide +kernel)) (
  ok_N_bound_t60))))))))))))))))))))))))))))))))))))))))))))))))))))))))))))
set_option maxRecDepth 20000 in
theorem ok_N_alike : mAll (mOk RX10 cX10_alike 3 true false (some .int) (mnat p_N_alike)) 0 k_N_alike := mA (i := 0) (ok_ald_n (f := 0) (pc := 0) rfl rfl rfl (by decide +kernel)) (
  mA (i := 1) (ok_ic (n := 0) (pc := 1) (by decide +kernel) rfl rfl (by decide +kernel)) (
  mA (i := 2) (ok_pI (pc := 2) rfl (by decide +kernel) wd_618 inw_11 tyX10_ok nmX10 rfl (by decide +kernel) rfl rfl (by decide +kernel)) (
  mA (i := 3) (ok_ald_n (f := 0) (pc := 5) rfl rfl rfl (by decide +kernel)) (
  mA (i := 4) (ok_ild_n (f := 1) (pc := 6) rfl rfl rfl (by decide +kernel)) (
  mA (i := 5) (ok_callI (pc := 7) (can_V cal_N_isClause (by decide +kernel) rfl (by decide +kernel) rfl wd_607 wd_608 wd_609 wd_605 (by decide +kernel)) rfl rfl) (
  mA (i := 6) (ok_ifeq (off := 11) (pc := 10) (tgt := 21) rfl rfl rfl (by decide +kernel) (by decide +kernel)) (
  mA (i := 7) (ok_ald_n (f := 0) (pc := 13) rfl rfl rfl (by decide +kernel)) (
  mA (i := 8) (ok_ild_n (f := 2) (pc := 14) rfl rfl rfl (by decide +kernel)) (
  mA (i := 9) (ok_callI (pc := 15) (can_V cal_N_isClause (by decide +kernel) rfl (by decide +kernel) rfl wd_607 wd_608 wd_609 wd_605 (by decide +kernel)) rfl rfl) (
  mA (i := 10) (ok_ifne (off := 6) (pc := 18) (tgt := 24) rfl rfl rfl (by decide +kernel) (by decide +kernel)) (
  mA (i := 11) (ok_bi (n := (-2)) (pc := 21) (by decide +kernel) rfl rfl (by decide +kernel)) (
  mA (i := 12) (ok_iret (pc := 23) rfl rfl (by decide +kernel)) (
  mA (i := 13) (ok_ald_n (f := 0) (pc := 24) rfl rfl rfl (by decide +kernel)) (
  mA (i := 14) (ok_ild_n (f := 1) (pc := 25) rfl rfl rfl (by decide +kernel)) (
  mA (i := 15) (ok_ild_n (f := 2) (pc := 26) rfl rfl rfl (by decide +kernel)) (
  mA (i := 16) (ok_callI (pc := 27) (can_V cal_N_areAlike (by decide +kernel) rfl (by decide +kernel) rfl wd_749 wd_750 wd_751 wd_605 (by decide +kernel)) rfl rfl) (
  mA (i := 17) (ok_ifeq (off := 7) (pc := 30) (tgt := 37) rfl rfl rfl (by decide +kernel) (by decide +kernel)) (
  mA (i := 18) (ok_ic (n := 1) (pc := 33) (by decide +kernel) rfl rfl (by decide +kernel)) (
  mA (i := 19) (ok_goto (off := 4) (pc := 34) (tgt := 38) rfl rfl (by decide +kernel) (by decide +kernel)) (
  mA (i := 20) (ok_ic (n := 0) (pc := 37) (by decide +kernel) rfl rfl (by decide +kernel)) (
  mA (i := 21) (ok_iret (pc := 38) rfl rfl (by decide +kernel)) (
  mZ))))))))))))))))))))))
set_option maxRecDepth 20000 in
theorem ok_N_single_t60 : mAll (mOk RX10 cX10_single 6 true false (some .int) (mnat p_N_single)) 60 [o_ic (nI 1), o_ild 4, o_shl, o_goto 65, o_ic (nI 0), o_or, o_ist 3, o_inc 5 (nI 1), o_goto 42, o_inc 4 (nI 1), o_goto 35, o_ild 3, o_iret] := mA (i := 60) (ok_ic (n := 1) (pc := 109) (by decide +kernel) rfl rfl (by decide +kernel)) (
  mA (i := 61) (ok_ild (pc := 110) rfl rfl (by decide +kernel)) (
  mA (i := 62) (ok_shl (pc := 112) rfl rfl (by decide +kernel)) (
  mA (i := 63) (ok_goto (off := 4) (pc := 113) (tgt := 117) rfl rfl (by decide +kernel) (by decide +kernel)) (
  mA (i := 64) (ok_ic (n := 0) (pc := 116) (by decide +kernel) rfl rfl (by decide +kernel)) (
  mA (i := 65) (ok_or (pc := 117) rfl rfl (by decide +kernel)) (
  mA (i := 66) (ok_ist_n (f := 3) (pc := 118) rfl (by decide +kernel) rfl rfl rfl (by decide +kernel)) (
  mA (i := 67) (ok_inc (z := 1) (pc := 119) (by decide +kernel) (by decide +kernel) rfl rfl rfl (by decide +kernel)) (
  mA (i := 68) (ok_goto (off := (-46)) (pc := 122) (tgt := 76) rfl rfl (by decide +kernel) (by decide +kernel)) (
  mA (i := 69) (ok_inc (z := 1) (pc := 125) (by decide +kernel) (by decide +kernel) rfl rfl rfl (by decide +kernel)) (
  mA (i := 70) (ok_goto (off := (-65)) (pc := 128) (tgt := 63) rfl rfl (by decide +kernel) (by decide +kernel)) (
  mA (i := 71) (ok_ild_n (f := 3) (pc := 131) rfl rfl rfl (by decide +kernel)) (
  mA (i := 72) (ok_iret (pc := 132) rfl rfl (by decide +kernel)) (
  mZ)))))))))))))
set_option maxRecDepth 20000 in
theorem ok_N_single : mAll (mOk RX10 cX10_single 6 true false (some .int) (mnat p_N_single)) 0 k_N_single := mA (i := 0) (ok_ald_n (f := 0) (pc := 0) rfl rfl rfl (by decide +kernel)) (
  mA (i := 1) (ok_ic (n := 0) (pc := 1) (by decide +kernel) rfl rfl (by decide +kernel)) (
  mA (i := 2) (ok_pI (pc := 2) rfl (by decide +kernel) wd_618 inw_11 tyX10_ok nmX10 rfl (by decide +kernel) rfl rfl (by decide +kernel)) (
  mA (i := 3) (ok_ald_n (f := 0) (pc := 5) rfl rfl rfl (by decide +kernel)) (
  mA (i := 4) (ok_ild_n (f := 1) (pc := 6) rfl rfl rfl (by decide +kernel)) (
  mA (i := 5) (ok_callI (pc := 7) (can_V cal_N_isClause (by decide +kernel) rfl (by decide +kernel) rfl wd_607 wd_608 wd_609 wd_605 (by decide +kernel)) rfl rfl) (
  mA (i := 6) (ok_ifeq (off := 11) (pc := 10) (tgt := 21) rfl rfl rfl (by decide +kernel) (by decide +kernel)) (
  mA (i := 7) (ok_ald_n (f := 0) (pc := 13) rfl rfl rfl (by decide +kernel)) (
  mA (i := 8) (ok_ild_n (f := 2) (pc := 14) rfl rfl rfl (by decide +kernel)) (
  mA (i := 9) (ok_callI (pc := 15) (can_V cal_N_isClause (by decide +kernel) rfl (by decide +kernel) rfl wd_607 wd_608 wd_609 wd_605 (by decide +kernel)) rfl rfl) (
  mA (i := 10) (ok_ifne (off := 6) (pc := 18) (tgt := 24) rfl rfl rfl (by decide +kernel) (by decide +kernel)) (
  mA (i := 11) (ok_bi (n := (-2)) (pc := 21) (by decide +kernel) rfl rfl (by decide +kernel)) (
  mA (i := 12) (ok_iret (pc := 23) rfl rfl (by decide +kernel)) (
  mA (i := 13) (ok_ald_n (f := 0) (pc := 24) rfl rfl rfl (by decide +kernel)) (
  mA (i := 14) (ok_ild_n (f := 1) (pc := 25) rfl rfl rfl (by decide +kernel)) (
  mA (i := 15) (ok_pI (pc := 26) rfl (by decide +kernel) wd_716 inw_11 tyX10_ok nmX10 rfl (by decide +kernel) rfl rfl (by decide +kernel)) (
  mA (i := 16) (ok_ald_n (f := 0) (pc := 29) rfl rfl rfl (by decide +kernel)) (
  mA (i := 17) (ok_ild_n (f := 2) (pc := 30) rfl rfl rfl (by decide +kernel)) (
  mA (i := 18) (ok_pI (pc := 31) rfl (by decide +kernel) wd_717 inw_11 tyX10_ok nmX10 rfl (by decide +kernel) rfl rfl (by decide +kernel)) (
  mA (i := 19) (ok_ic (n := 0) (pc := 34) (by decide +kernel) rfl rfl (by decide +kernel)) (
  mA (i := 20) (ok_ist_n (f := 3) (pc := 35) rfl (by decide +kernel) rfl rfl rfl (by decide +kernel)) (
  mA (i := 21) (ok_ic (n := 0) (pc := 36) (by decide +kernel) rfl rfl (by decide +kernel)) (
  mA (i := 22) (ok_ist (pc := 37) (by decide +kernel) rfl rfl rfl (by decide +kernel)) (
  mA (i := 23) (ok_ild (pc := 39) rfl rfl (by decide +kernel)) (
  mA (i := 24) (ok_bi (n := 6) (pc := 41) (by decide +kernel) rfl rfl (by decide +kernel)) (
  mA (i := 25) (ok_cge (off := 17) (pc := 43) (tgt := 60) rfl rfl rfl (by decide +kernel) (by decide +kernel)) (
  mA (i := 26) (ok_ald_n (f := 0) (pc := 46) rfl rfl rfl (by decide +kernel)) (
  mA (i := 27) (ok_gP (pc := 47) rfl (by decide +kernel) wd_583 inw_11 rfl rfl (by decide +kernel)) (
  mA (i := 28) (ok_ild (pc := 50) rfl rfl (by decide +kernel)) (
  mA (i := 29) (ok_ic (n := (-1)) (pc := 52) (by decide +kernel) rfl rfl (by decide +kernel)) (
  mA (i := 30) (ok_iast (pc := 53) rfl rfl (by decide +kernel)) (
  mA (i := 31) (ok_inc (z := 1) (pc := 54) (by decide +kernel) (by decide +kernel) rfl rfl rfl (by decide +kernel)) (
  mA (i := 32) (ok_goto (off := (-18)) (pc := 57) (tgt := 39) rfl rfl (by decide +kernel) (by decide +kernel)) (
  mA (i := 33) (ok_ic (n := 0) (pc := 60) (by decide +kernel) rfl rfl (by decide +kernel)) (
  mA (i := 34) (ok_ist (pc := 61) (by decide +kernel) rfl rfl rfl (by decide +kernel)) (
  mA (i := 35) (ok_ild (pc := 63) rfl rfl (by decide +kernel)) (
  mA (i := 36) (ok_ald_n (f := 0) (pc := 65) rfl rfl rfl (by decide +kernel)) (
  mA (i := 37) (ok_ild_n (f := 1) (pc := 66) rfl rfl rfl (by decide +kernel)) (
  mA (i := 38) (ok_callI (pc := 67) (can_V cal_N_literalMany (by decide +kernel) rfl (by decide +kernel) rfl wd_671 wd_672 wd_673 wd_605 (by decide +kernel)) rfl rfl) (
  mA (i := 39) (ok_cge (off := 61) (pc := 70) (tgt := 131) rfl rfl rfl (by decide +kernel) (by decide +kernel)) (
  mA (i := 40) (ok_ic (n := 0) (pc := 73) (by decide +kernel) rfl rfl (by decide +kernel)) (
  mA (i := 41) (ok_ist (pc := 74) (by decide +kernel) rfl rfl rfl (by decide +kernel)) (
  mA (i := 42) (ok_ild (pc := 76) rfl rfl (by decide +kernel)) (
  mA (i := 43) (ok_ald_n (f := 0) (pc := 78) rfl rfl rfl (by decide +kernel)) (
  mA (i := 44) (ok_ild_n (f := 2) (pc := 79) rfl rfl rfl (by decide +kernel)) (
  mA (i := 45) (ok_callI (pc := 80) (can_V cal_N_literalMany (by decide +kernel) rfl (by decide +kernel) rfl wd_671 wd_672 wd_673 wd_605 (by decide +kernel)) rfl rfl) (
  mA (i := 46) (ok_cge (off := 42) (pc := 83) (tgt := 125) rfl rfl rfl (by decide +kernel) (by decide +kernel)) (
  mA (i := 47) (ok_ild_n (f := 3) (pc := 86) rfl rfl rfl (by decide +kernel)) (
  mA (i := 48) (ok_ald_n (f := 0) (pc := 87) rfl rfl rfl (by decide +kernel)) (
  mA (i := 49) (ok_ald_n (f := 0) (pc := 88) rfl rfl rfl (by decide +kernel)) (
  mA (i := 50) (ok_ild_n (f := 1) (pc := 89) rfl rfl rfl (by decide +kernel)) (
  mA (i := 51) (ok_ild (pc := 90) rfl rfl (by decide +kernel)) (
  mA (i := 52) (ok_callI (pc := 92) (can_V cal_N_beginOf (by decide +kernel) rfl (by decide +kernel) rfl wd_700 wd_701 wd_702 wd_605 (by decide +kernel)) rfl rfl) (
  mA (i := 53) (ok_ald_n (f := 0) (pc := 95) rfl rfl rfl (by decide +kernel)) (
  mA (i := 54) (ok_ild_n (f := 2) (pc := 96) rfl rfl rfl (by decide +kernel)) (
  mA (i := 55) (ok_ild (pc := 97) rfl rfl (by decide +kernel)) (
  mA (i := 56) (ok_callI (pc := 99) (can_V cal_N_beginOf (by decide +kernel) rfl (by decide +kernel) rfl wd_700 wd_701 wd_702 wd_605 (by decide +kernel)) rfl rfl) (
  mA (i := 57) (ok_ic (n := 0) (pc := 102) (by decide +kernel) rfl rfl (by decide +kernel)) (
  mA (i := 58) (ok_callI (pc := 103) (can_V cal_N_matches (by decide +kernel) rfl (by decide +kernel) rfl wd_730 wd_731 wd_732 wd_605 (by decide +kernel)) rfl rfl) (
  mA (i := 59) (ok_ifeq (off := 10) (pc := 106) (tgt := 116) rfl rfl rfl (by decide +kernel) (by decide +kernel)) (
  ok_N_single_t60))))))))))))))))))))))))))))))))))))))))))))))))))))))))))))
set_option maxRecDepth 20000 in
theorem ok_N_putBegin : mAll (mOk RX10 cX10_putBegin 4 true false (some .int) (mnat p_N_putBegin)) 0 k_N_putBegin := mA (i := 0) (ok_ic (n := 0) (pc := 0) (by decide +kernel) rfl rfl (by decide +kernel)) (
  mA (i := 1) (ok_ist_n (f := 2) (pc := 1) rfl (by decide +kernel) rfl rfl rfl (by decide +kernel)) (
  mA (i := 2) (ok_ic (n := 0) (pc := 2) (by decide +kernel) rfl rfl (by decide +kernel)) (
  mA (i := 3) (ok_ist_n (f := 3) (pc := 3) rfl (by decide +kernel) rfl rfl rfl (by decide +kernel)) (
  mA (i := 4) (ok_ild_n (f := 2) (pc := 4) rfl rfl rfl (by decide +kernel)) (
  mA (i := 5) (ok_ild_n (f := 1) (pc := 5) rfl rfl rfl (by decide +kernel)) (
  mA (i := 6) (ok_clt (off := 14) (pc := 6) (tgt := 20) rfl rfl rfl (by decide +kernel) (by decide +kernel)) (
  mA (i := 7) (ok_ald_n (f := 0) (pc := 9) rfl rfl rfl (by decide +kernel)) (
  mA (i := 8) (ok_gP (pc := 10) rfl (by decide +kernel) wd_582 inw_11 rfl rfl (by decide +kernel)) (
  mA (i := 9) (ok_ild_n (f := 3) (pc := 13) rfl rfl rfl (by decide +kernel)) (
  mA (i := 10) (ok_iald (pc := 14) rfl rfl (by decide +kernel)) (
  mA (i := 11) (ok_bi (n := 100) (pc := 15) (by decide +kernel) rfl rfl (by decide +kernel)) (
  mA (i := 12) (ok_cge (off := 28) (pc := 17) (tgt := 45) rfl rfl rfl (by decide +kernel) (by decide +kernel)) (
  mA (i := 13) (ok_ild_n (f := 2) (pc := 20) rfl rfl rfl (by decide +kernel)) (
  mA (i := 14) (ok_ald_n (f := 0) (pc := 21) rfl rfl rfl (by decide +kernel)) (
  mA (i := 15) (ok_gP (pc := 22) rfl (by decide +kernel) wd_582 inw_11 rfl rfl (by decide +kernel)) (
  mA (i := 16) (ok_ild_n (f := 3) (pc := 25) rfl rfl rfl (by decide +kernel)) (
  mA (i := 17) (ok_iald (pc := 26) rfl rfl (by decide +kernel)) (
  mA (i := 18) (ok_bi (n := 100) (pc := 27) (by decide +kernel) rfl rfl (by decide +kernel)) (
  mA (i := 19) (ok_clt (off := 7) (pc := 29) (tgt := 36) rfl rfl rfl (by decide +kernel) (by decide +kernel)) (
  mA (i := 20) (ok_ic (n := 1) (pc := 32) (by decide +kernel) rfl rfl (by decide +kernel)) (
  mA (i := 21) (ok_goto (off := 4) (pc := 33) (tgt := 37) rfl rfl (by decide +kernel) (by decide +kernel)) (
  mA (i := 22) (ok_ic (n := 0) (pc := 36) (by decide +kernel) rfl rfl (by decide +kernel)) (
  mA (i := 23) (ok_add (pc := 37) rfl rfl (by decide +kernel)) (
  mA (i := 24) (ok_ist_n (f := 2) (pc := 38) rfl (by decide +kernel) rfl rfl rfl (by decide +kernel)) (
  mA (i := 25) (ok_inc (z := 1) (pc := 39) (by decide +kernel) (by decide +kernel) rfl rfl rfl (by decide +kernel)) (
  mA (i := 26) (ok_goto (off := (-38)) (pc := 42) (tgt := 4) rfl rfl (by decide +kernel) (by decide +kernel)) (
  mA (i := 27) (ok_ild_n (f := 3) (pc := 45) rfl rfl rfl (by decide +kernel)) (
  mA (i := 28) (ok_iret (pc := 46) rfl rfl (by decide +kernel)) (
  mZ)))))))))))))))))))))))))))))
set_option maxRecDepth 20000 in
theorem ok_N_putsTerm_t60 : mAll (mOk RX10 cX10_putsTerm 7 true false (some .int) (mnat p_N_putsTerm)) 60 [o_ald4 21, o_ild 1, o_ceq 69, o_ald 0, o_ald 0, o_gP 11 32, o_ild 5, o_ald4 21, o_callV 219 2 11, o_ic (nI 0), o_ist 6, o_ild 6, o_ild 3, o_cge 88, o_ald 0, o_gP 11 32, o_ild 5, o_ald4 21, o_ild 1, o_cne 88, o_ald 0, o_ald 0, o_gP 11 31, o_ild 6, o_ald4 21, o_callV 219 2 11, o_inc 6 (nI 1), o_goto 71, o_inc 5 (nI 1), o_goto 54, o_ald 0, o_gI 11 17, o_ic (nI 30), o_cgt 97, o_ald 0, o_callI 220 1 11, o_ifne 99, o_ic ((-4)), o_goto 100, o_ic (nI 0), o_iret] := mA (i := 60) (ok_iald (pc := 110) rfl rfl (by decide +kernel)) (
  mA (i := 61) (ok_ild_n (f := 1) (pc := 111) rfl rfl rfl (by decide +kernel)) (
  mA (i := 62) (ok_ceq (off := 14) (pc := 112) (tgt := 126) rfl rfl rfl (by decide +kernel) (by decide +kernel)) (
  mA (i := 63) (ok_ald_n (f := 0) (pc := 115) rfl rfl rfl (by decide +kernel)) (
  mA (i := 64) (ok_ald_n (f := 0) (pc := 116) rfl rfl rfl (by decide +kernel)) (
  mA (i := 65) (ok_gP (pc := 117) rfl (by decide +kernel) wd_588 inw_11 rfl rfl (by decide +kernel)) (
  mA (i := 66) (ok_ild (pc := 120) rfl rfl (by decide +kernel)) (
  mA (i := 67) (ok_iald (pc := 122) rfl rfl (by decide +kernel)) (
  mA (i := 68) (ok_callV (pc := 123) (can_V cal_N_puts (by decide +kernel) rfl (by decide +kernel) rfl wd_679 wd_680 wd_681 wd_605 (by decide +kernel)) rfl rfl) (
  mA (i := 69) (ok_ic (n := 0) (pc := 126) (by decide +kernel) rfl rfl (by decide +kernel)) (
  mA (i := 70) (ok_ist (pc := 127) (by decide +kernel) rfl rfl rfl (by decide +kernel)) (
  mA (i := 71) (ok_ild (pc := 129) rfl rfl (by decide +kernel)) (
  mA (i := 72) (ok_ild_n (f := 3) (pc := 131) rfl rfl rfl (by decide +kernel)) (
  mA (i := 73) (ok_cge (off := 31) (pc := 132) (tgt := 163) rfl rfl rfl (by decide +kernel) (by decide +kernel)) (
  mA (i := 74) (ok_ald_n (f := 0) (pc := 135) rfl rfl rfl (by decide +kernel)) (
  mA (i := 75) (ok_gP (pc := 136) rfl (by decide +kernel) wd_588 inw_11 rfl rfl (by decide +kernel)) (
  mA (i := 76) (ok_ild (pc := 139) rfl rfl (by decide +kernel)) (
  mA (i := 77) (ok_iald (pc := 141) rfl rfl (by decide +kernel)) (
  mA (i := 78) (ok_ild_n (f := 1) (pc := 142) rfl rfl rfl (by decide +kernel)) (
  mA (i := 79) (ok_cne (off := 20) (pc := 143) (tgt := 163) rfl rfl rfl (by decide +kernel) (by decide +kernel)) (
  mA (i := 80) (ok_ald_n (f := 0) (pc := 146) rfl rfl rfl (by decide +kernel)) (
  mA (i := 81) (ok_ald_n (f := 0) (pc := 147) rfl rfl rfl (by decide +kernel)) (
  mA (i := 82) (ok_gP (pc := 148) rfl (by decide +kernel) wd_587 inw_11 rfl rfl (by decide +kernel)) (
  mA (i := 83) (ok_ild (pc := 151) rfl rfl (by decide +kernel)) (
  mA (i := 84) (ok_iald (pc := 153) rfl rfl (by decide +kernel)) (
  mA (i := 85) (ok_callV (pc := 154) (can_V cal_N_puts (by decide +kernel) rfl (by decide +kernel) rfl wd_679 wd_680 wd_681 wd_605 (by decide +kernel)) rfl rfl) (
  mA (i := 86) (ok_inc (z := 1) (pc := 157) (by decide +kernel) (by decide +kernel) rfl rfl rfl (by decide +kernel)) (
  mA (i := 87) (ok_goto (off := (-31)) (pc := 160) (tgt := 129) rfl rfl (by decide +kernel) (by decide +kernel)) (
  mA (i := 88) (ok_inc (z := 1) (pc := 163) (by decide +kernel) (by decide +kernel) rfl rfl rfl (by decide +kernel)) (
  mA (i := 89) (ok_goto (off := (-69)) (pc := 166) (tgt := 97) rfl rfl (by decide +kernel) (by decide +kernel)) (
  mA (i := 90) (ok_ald_n (f := 0) (pc := 169) rfl rfl rfl (by decide +kernel)) (
  mA (i := 91) (ok_gI (pc := 170) rfl (by decide +kernel) wd_674 inw_11 rfl rfl (by decide +kernel)) (
  mA (i := 92) (ok_bi (n := 30) (pc := 173) (by decide +kernel) rfl rfl (by decide +kernel)) (
  mA (i := 93) (ok_cgt (off := 10) (pc := 175) (tgt := 185) rfl rfl rfl (by decide +kernel) (by decide +kernel)) (
  mA (i := 94) (ok_ald_n (f := 0) (pc := 178) rfl rfl rfl (by decide +kernel)) (
  mA (i := 95) (ok_callI (pc := 179) (can_V cal_N_isShallow (by decide +kernel) rfl (by decide +kernel) rfl wd_682 wd_683 wd_684 wd_605 (by decide +kernel)) rfl rfl) (
  mA (i := 96) (ok_ifne (off := 8) (pc := 182) (tgt := 190) rfl rfl rfl (by decide +kernel) (by decide +kernel)) (
  mA (i := 97) (ok_bi (n := (-4)) (pc := 185) (by decide +kernel) rfl rfl (by decide +kernel)) (
  mA (i := 98) (ok_goto (off := 4) (pc := 187) (tgt := 191) rfl rfl (by decide +kernel) (by decide +kernel)) (
  mA (i := 99) (ok_ic (n := 0) (pc := 190) (by decide +kernel) rfl rfl (by decide +kernel)) (
  mA (i := 100) (ok_iret (pc := 191) rfl rfl (by decide +kernel)) (
  mZ)))))))))))))))))))))))))))))))))))))))))
set_option maxRecDepth 20000 in
theorem ok_N_putsTerm : mAll (mOk RX10 cX10_putsTerm 7 true false (some .int) (mnat p_N_putsTerm)) 0 k_N_putsTerm := mA (i := 0) (ok_ald_n (f := 0) (pc := 0) rfl rfl rfl (by decide +kernel)) (
  mA (i := 1) (ok_ild_n (f := 2) (pc := 1) rfl rfl rfl (by decide +kernel)) (
  mA (i := 2) (ok_callI (pc := 2) (can_V cal_N_pastOfPut (by decide +kernel) rfl (by decide +kernel) rfl wd_675 wd_676 wd_677 wd_605 (by decide +kernel)) rfl rfl) (
  mA (i := 3) (ok_ild_n (f := 2) (pc := 5) rfl rfl rfl (by decide +kernel)) (
  mA (i := 4) (ok_sub (pc := 6) rfl rfl (by decide +kernel)) (
  mA (i := 5) (ok_ist_n (f := 3) (pc := 7) rfl (by decide +kernel) rfl rfl rfl (by decide +kernel)) (
  mA (i := 6) (ok_ic (n := 0) (pc := 8) (by decide +kernel) rfl rfl (by decide +kernel)) (
  mA (i := 7) (ok_ist (pc := 9) (by decide +kernel) rfl rfl rfl (by decide +kernel)) (
  mA (i := 8) (ok_ild (pc := 11) rfl rfl (by decide +kernel)) (
  mA (i := 9) (ok_ild_n (f := 3) (pc := 13) rfl rfl rfl (by decide +kernel)) (
  mA (i := 10) (ok_cge (off := 39) (pc := 14) (tgt := 53) rfl rfl rfl (by decide +kernel) (by decide +kernel)) (
  mA (i := 11) (ok_ald_n (f := 0) (pc := 17) rfl rfl rfl (by decide +kernel)) (
  mA (i := 12) (ok_gP (pc := 18) rfl (by decide +kernel) wd_587 inw_11 rfl rfl (by decide +kernel)) (
  mA (i := 13) (ok_ild (pc := 21) rfl rfl (by decide +kernel)) (
  mA (i := 14) (ok_ald_n (f := 0) (pc := 23) rfl rfl rfl (by decide +kernel)) (
  mA (i := 15) (ok_gP (pc := 24) rfl (by decide +kernel) wd_582 inw_11 rfl rfl (by decide +kernel)) (
  mA (i := 16) (ok_ild_n (f := 2) (pc := 27) rfl rfl rfl (by decide +kernel)) (
  mA (i := 17) (ok_ild (pc := 28) rfl rfl (by decide +kernel)) (
  mA (i := 18) (ok_add (pc := 30) rfl rfl (by decide +kernel)) (
  mA (i := 19) (ok_iald (pc := 31) rfl rfl (by decide +kernel)) (
  mA (i := 20) (ok_iast (pc := 32) rfl rfl (by decide +kernel)) (
  mA (i := 21) (ok_ald_n (f := 0) (pc := 33) rfl rfl rfl (by decide +kernel)) (
  mA (i := 22) (ok_gP (pc := 34) rfl (by decide +kernel) wd_587 inw_11 rfl rfl (by decide +kernel)) (
  mA (i := 23) (ok_ild (pc := 37) rfl rfl (by decide +kernel)) (
  mA (i := 24) (ok_iald (pc := 39) rfl rfl (by decide +kernel)) (
  mA (i := 25) (ok_ild_n (f := 1) (pc := 40) rfl rfl rfl (by decide +kernel)) (
  mA (i := 26) (ok_cne (off := 6) (pc := 41) (tgt := 47) rfl rfl rfl (by decide +kernel) (by decide +kernel)) (
  mA (i := 27) (ok_bi (n := (-5)) (pc := 44) (by decide +kernel) rfl rfl (by decide +kernel)) (
  mA (i := 28) (ok_iret (pc := 46) rfl rfl (by decide +kernel)) (
  mA (i := 29) (ok_inc (z := 1) (pc := 47) (by decide +kernel) (by decide +kernel) rfl rfl rfl (by decide +kernel)) (
  mA (i := 30) (ok_goto (off := (-39)) (pc := 50) (tgt := 11) rfl rfl (by decide +kernel) (by decide +kernel)) (
  mA (i := 31) (ok_ald_n (f := 0) (pc := 53) rfl rfl rfl (by decide +kernel)) (
  mA (i := 32) (ok_gI (pc := 54) rfl (by decide +kernel) wd_674 inw_11 rfl rfl (by decide +kernel)) (
  mA (i := 33) (ok_ist (pc := 57) (by decide +kernel) rfl rfl rfl (by decide +kernel)) (
  mA (i := 34) (ok_ic (n := 0) (pc := 59) (by decide +kernel) rfl rfl (by decide +kernel)) (
  mA (i := 35) (ok_ist (pc := 60) (by decide +kernel) rfl rfl rfl (by decide +kernel)) (
  mA (i := 36) (ok_ild (pc := 62) rfl rfl (by decide +kernel)) (
  mA (i := 37) (ok_ild (pc := 64) rfl rfl (by decide +kernel)) (
  mA (i := 38) (ok_cge (off := 23) (pc := 66) (tgt := 89) rfl rfl rfl (by decide +kernel) (by decide +kernel)) (
  mA (i := 39) (ok_ald_n (f := 0) (pc := 69) rfl rfl rfl (by decide +kernel)) (
  mA (i := 40) (ok_gP (pc := 70) rfl (by decide +kernel) wd_588 inw_11 rfl rfl (by decide +kernel)) (
  mA (i := 41) (ok_ild (pc := 73) rfl rfl (by decide +kernel)) (
  mA (i := 42) (ok_ald_n (f := 0) (pc := 75) rfl rfl rfl (by decide +kernel)) (
  mA (i := 43) (ok_gP (pc := 76) rfl (by decide +kernel) wd_582 inw_11 rfl rfl (by decide +kernel)) (
  mA (i := 44) (ok_ild (pc := 79) rfl rfl (by decide +kernel)) (
  mA (i := 45) (ok_iald (pc := 81) rfl rfl (by decide +kernel)) (
  mA (i := 46) (ok_iast (pc := 82) rfl rfl (by decide +kernel)) (
  mA (i := 47) (ok_inc (z := 1) (pc := 83) (by decide +kernel) (by decide +kernel) rfl rfl rfl (by decide +kernel)) (
  mA (i := 48) (ok_goto (off := (-24)) (pc := 86) (tgt := 62) rfl rfl (by decide +kernel) (by decide +kernel)) (
  mA (i := 49) (ok_ald_n (f := 0) (pc := 89) rfl rfl rfl (by decide +kernel)) (
  mA (i := 50) (ok_ic (n := 0) (pc := 90) (by decide +kernel) rfl rfl (by decide +kernel)) (
  mA (i := 51) (ok_pI (pc := 91) rfl (by decide +kernel) wd_674 inw_11 tyX10_ok nmX10 rfl (by decide +kernel) rfl rfl (by decide +kernel)) (
  mA (i := 52) (ok_ic (n := 0) (pc := 94) (by decide +kernel) rfl rfl (by decide +kernel)) (
  mA (i := 53) (ok_ist (pc := 95) (by decide +kernel) rfl rfl rfl (by decide +kernel)) (
  mA (i := 54) (ok_ild (pc := 97) rfl rfl (by decide +kernel)) (
  mA (i := 55) (ok_ild (pc := 99) rfl rfl (by decide +kernel)) (
  mA (i := 56) (ok_cge (off := 68) (pc := 101) (tgt := 169) rfl rfl rfl (by decide +kernel) (by decide +kernel)) (
  mA (i := 57) (ok_ald_n (f := 0) (pc := 104) rfl rfl rfl (by decide +kernel)) (
  mA (i := 58) (ok_gP (pc := 105) rfl (by decide +kernel) wd_588 inw_11 rfl rfl (by decide +kernel)) (
  mA (i := 59) (ok_ild (pc := 108) rfl rfl (by decide +kernel)) (
  ok_N_putsTerm_t60))))))))))))))))))))))))))))))))))))))))))))))))))))))))))))
set_option maxRecDepth 20000 in
theorem ok_N_unites_t60 : mAll (mOk RX10 cX10_unites 9 true false (some .int) (mnat p_N_unites)) 60 [o_add, o_callI 257 3 11, o_ist 8, o_ild 8, o_ifeq 67, o_ild 8, o_iret, o_goto 2] := mA (i := 60) (ok_add (pc := 112) rfl rfl (by decide +kernel)) (
  mA (i := 61) (ok_callI (pc := 113) (can_V cal_N_putsTerm (by decide +kernel) rfl (by decide +kernel) rfl wd_755 wd_756 wd_757 wd_605 (by decide +kernel)) rfl rfl) (
  mA (i := 62) (ok_ist (pc := 116) (by decide +kernel) rfl rfl rfl (by decide +kernel)) (
  mA (i := 63) (ok_ild (pc := 118) rfl rfl (by decide +kernel)) (
  mA (i := 64) (ok_ifeq (off := 6) (pc := 120) (tgt := 126) rfl rfl rfl (by decide +kernel) (by decide +kernel)) (
  mA (i := 65) (ok_ild (pc := 123) rfl rfl (by decide +kernel)) (
  mA (i := 66) (ok_iret (pc := 125) rfl rfl (by decide +kernel)) (
  mA (i := 67) (ok_goto (off := (-124)) (pc := 126) (tgt := 2) rfl rfl (by decide +kernel) (by decide +kernel)) (
  mZ))))))))
set_option maxRecDepth 20000 in
theorem ok_N_unites : mAll (mOk RX10 cX10_unites 9 true false (some .int) (mnat p_N_unites)) 0 k_N_unites := mA (i := 0) (ok_ic (n := 1) (pc := 0) (by decide +kernel) rfl rfl (by decide +kernel)) (
  mA (i := 1) (ok_ist_n (f := 3) (pc := 1) rfl (by decide +kernel) rfl rfl rfl (by decide +kernel)) (
  mA (i := 2) (ok_ald_n (f := 0) (pc := 2) rfl rfl rfl (by decide +kernel)) (
  mA (i := 3) (ok_ild_n (f := 1) (pc := 3) rfl rfl rfl (by decide +kernel)) (
  mA (i := 4) (ok_callI (pc := 4) (can_V cal_N_putBegin (by decide +kernel) rfl (by decide +kernel) rfl wd_752 wd_753 wd_754 wd_605 (by decide +kernel)) rfl rfl) (
  mA (i := 5) (ok_ist (pc := 7) (by decide +kernel) rfl rfl rfl (by decide +kernel)) (
  mA (i := 6) (ok_ald_n (f := 0) (pc := 9) rfl rfl rfl (by decide +kernel)) (
  mA (i := 7) (ok_ild_n (f := 2) (pc := 10) rfl rfl rfl (by decide +kernel)) (
  mA (i := 8) (ok_callI (pc := 11) (can_V cal_N_putBegin (by decide +kernel) rfl (by decide +kernel) rfl wd_752 wd_753 wd_754 wd_605 (by decide +kernel)) rfl rfl) (
  mA (i := 9) (ok_ist (pc := 14) (by decide +kernel) rfl rfl rfl (by decide +kernel)) (
  mA (i := 10) (ok_ild (pc := 16) rfl rfl (by decide +kernel)) (
  mA (i := 11) (ok_ild_n (f := 3) (pc := 18) rfl rfl rfl (by decide +kernel)) (
  mA (i := 12) (ok_add (pc := 19) rfl rfl (by decide +kernel)) (
  mA (i := 13) (ok_ald_n (f := 0) (pc := 20) rfl rfl rfl (by decide +kernel)) (
  mA (i := 14) (ok_ild (pc := 21) rfl rfl (by decide +kernel)) (
  mA (i := 15) (ok_callI (pc := 23) (can_V cal_N_pastOfPut (by decide +kernel) rfl (by decide +kernel) rfl wd_675 wd_676 wd_677 wd_605 (by decide +kernel)) rfl rfl) (
  mA (i := 16) (ok_cne (off := 5) (pc := 26) (tgt := 31) rfl rfl rfl (by decide +kernel) (by decide +kernel)) (
  mA (i := 17) (ok_ic (n := 0) (pc := 29) (by decide +kernel) rfl rfl (by decide +kernel)) (
  mA (i := 18) (ok_iret (pc := 30) rfl rfl (by decide +kernel)) (
  mA (i := 19) (ok_ald_n (f := 0) (pc := 31) rfl rfl rfl (by decide +kernel)) (
  mA (i := 20) (ok_gP (pc := 32) rfl (by decide +kernel) wd_582 inw_11 rfl rfl (by decide +kernel)) (
  mA (i := 21) (ok_ild (pc := 35) rfl rfl (by decide +kernel)) (
  mA (i := 22) (ok_ild_n (f := 3) (pc := 37) rfl rfl rfl (by decide +kernel)) (
  mA (i := 23) (ok_add (pc := 38) rfl rfl (by decide +kernel)) (
  mA (i := 24) (ok_iald (pc := 39) rfl rfl (by decide +kernel)) (
  mA (i := 25) (ok_ist (pc := 40) (by decide +kernel) rfl rfl rfl (by decide +kernel)) (
  mA (i := 26) (ok_ald_n (f := 0) (pc := 42) rfl rfl rfl (by decide +kernel)) (
  mA (i := 27) (ok_gP (pc := 43) rfl (by decide +kernel) wd_582 inw_11 rfl rfl (by decide +kernel)) (
  mA (i := 28) (ok_ild (pc := 46) rfl rfl (by decide +kernel)) (
  mA (i := 29) (ok_ild_n (f := 3) (pc := 48) rfl rfl rfl (by decide +kernel)) (
  mA (i := 30) (ok_add (pc := 49) rfl rfl (by decide +kernel)) (
  mA (i := 31) (ok_iald (pc := 50) rfl rfl (by decide +kernel)) (
  mA (i := 32) (ok_ist (pc := 51) (by decide +kernel) rfl rfl rfl (by decide +kernel)) (
  mA (i := 33) (ok_ild (pc := 53) rfl rfl (by decide +kernel)) (
  mA (i := 34) (ok_ild (pc := 55) rfl rfl (by decide +kernel)) (
  mA (i := 35) (ok_cne (off := 9) (pc := 57) (tgt := 66) rfl rfl rfl (by decide +kernel) (by decide +kernel)) (
  mA (i := 36) (ok_inc (z := 1) (pc := 60) (by decide +kernel) (by decide +kernel) rfl rfl rfl (by decide +kernel)) (
  mA (i := 37) (ok_goto (off := (-61)) (pc := 63) (tgt := 2) rfl rfl (by decide +kernel) (by decide +kernel)) (
  mA (i := 38) (ok_ild (pc := 66) rfl rfl (by decide +kernel)) (
  mA (i := 39) (ok_callI (pc := 68) (can_S cal_N_isVariable (by decide +kernel) wd_709 wd_708 wd_605 (by decide +kernel)) rfl rfl) (
  mA (i := 40) (ok_ifne (off := 14) (pc := 71) (tgt := 85) rfl rfl rfl (by decide +kernel) (by decide +kernel)) (
  mA (i := 41) (ok_ild (pc := 74) rfl rfl (by decide +kernel)) (
  mA (i := 42) (ok_callI (pc := 76) (can_S cal_N_isVariable (by decide +kernel) wd_709 wd_708 wd_605 (by decide +kernel)) rfl rfl) (
  mA (i := 43) (ok_ifne (off := 6) (pc := 79) (tgt := 85) rfl rfl rfl (by decide +kernel) (by decide +kernel)) (
  mA (i := 44) (ok_bi (n := (-5)) (pc := 82) (by decide +kernel) rfl rfl (by decide +kernel)) (
  mA (i := 45) (ok_iret (pc := 84) rfl rfl (by decide +kernel)) (
  mA (i := 46) (ok_ild (pc := 85) rfl rfl (by decide +kernel)) (
  mA (i := 47) (ok_callI (pc := 87) (can_S cal_N_isVariable (by decide +kernel) wd_709 wd_708 wd_605 (by decide +kernel)) rfl rfl) (
  mA (i := 48) (ok_ifeq (off := 16) (pc := 90) (tgt := 106) rfl rfl rfl (by decide +kernel) (by decide +kernel)) (
  mA (i := 49) (ok_ald_n (f := 0) (pc := 93) rfl rfl rfl (by decide +kernel)) (
  mA (i := 50) (ok_ild (pc := 94) rfl rfl (by decide +kernel)) (
  mA (i := 51) (ok_ild (pc := 96) rfl rfl (by decide +kernel)) (
  mA (i := 52) (ok_ild_n (f := 3) (pc := 98) rfl rfl rfl (by decide +kernel)) (
  mA (i := 53) (ok_add (pc := 99) rfl rfl (by decide +kernel)) (
  mA (i := 54) (ok_callI (pc := 100) (can_V cal_N_putsTerm (by decide +kernel) rfl (by decide +kernel) rfl wd_755 wd_756 wd_757 wd_605 (by decide +kernel)) rfl rfl) (
  mA (i := 55) (ok_goto (off := 13) (pc := 103) (tgt := 116) rfl rfl (by decide +kernel) (by decide +kernel)) (
  mA (i := 56) (ok_ald_n (f := 0) (pc := 106) rfl rfl rfl (by decide +kernel)) (
  mA (i := 57) (ok_ild (pc := 107) rfl rfl (by decide +kernel)) (
  mA (i := 58) (ok_ild (pc := 109) rfl rfl (by decide +kernel)) (
  mA (i := 59) (ok_ild_n (f := 3) (pc := 111) rfl rfl rfl (by decide +kernel)) (
  ok_N_unites_t60))))))))))))))))))))))))))))))))))))))))))))))))))))))))))))
set_option maxRecDepth 20000 in
theorem ok_N_factor_t120 : mAll (mOk RX10 cX10_factor 8 true false (some .int) (mnat p_N_factor)) 120 [o_pI 11 10, o_inc 7 (nI 1), o_goto 91, o_ald 0, o_ic (nI 24), o_callV 215 2 11, o_ald 0, o_ic (nI 24), o_callI 200 2 11, o_iret] := mA (i := 120) (ok_pI (pc := 209) rfl (by decide +kernel) wd_633 inw_11 tyX10_ok nmX10 rfl (by decide +kernel) rfl rfl (by decide +kernel)) (
  mA (i := 121) (ok_inc (z := 1) (pc := 212) (by decide +kernel) (by decide +kernel) rfl rfl rfl (by decide +kernel)) (
  mA (i := 122) (ok_goto (off := (-58)) (pc := 215) (tgt := 157) rfl rfl (by decide +kernel) (by decide +kernel)) (
  mA (i := 123) (ok_ald_n (f := 0) (pc := 218) rfl rfl rfl (by decide +kernel)) (
  mA (i := 124) (ok_bi (n := 24) (pc := 219) (by decide +kernel) rfl rfl (by decide +kernel)) (
  mA (i := 125) (ok_callV (pc := 221) (can_V cal_N_keeps (by decide +kernel) rfl (by decide +kernel) rfl wd_668 wd_669 wd_670 wd_605 (by decide +kernel)) rfl rfl) (
  mA (i := 126) (ok_ald_n (f := 0) (pc := 224) rfl rfl rfl (by decide +kernel)) (
  mA (i := 127) (ok_bi (n := 24) (pc := 225) (by decide +kernel) rfl rfl (by decide +kernel)) (
  mA (i := 128) (ok_callI (pc := 227) (can_V cal_N_literalMany (by decide +kernel) rfl (by decide +kernel) rfl wd_671 wd_672 wd_673 wd_605 (by decide +kernel)) rfl rfl) (
  mA (i := 129) (ok_iret (pc := 230) rfl rfl (by decide +kernel)) (
  mZ))))))))))
set_option maxRecDepth 20000 in
theorem ok_N_factor_t60 : mAll (mOk RX10 cX10_factor 8 true false (some .int) (mnat p_N_factor)) 60 [o_cge 69, o_ald 0, o_ald 0, o_ild 1, o_ild 4, o_callI 196 3 11, o_callV 219 2 11, o_inc 4 (nI 1), o_goto 56, o_ald 0, o_ild 2, o_ild 3, o_callI 258 3 11, o_ist 4, o_ild 4, o_ifeq 78, o_ild 4, o_iret, o_ald 0, o_ild 3, o_callI 256 2 11, o_ist 5, o_ald 0, o_ild 5, o_callI 221 2 11, o_ist 6, o_ald 0, o_ic (nI 0), o_pI 11 10, o_ic (nI 0), o_ist 7, o_ild 7, o_ald 0, o_gI 11 17, o_cge 123, o_ild 7, o_i2l, o_ild 5, o_i2l, o_ild 6, o_ic (nI 1), o_sub, o_i2l, o_callI 191 3 0, o_ifeq 106, o_goto 121, o_ald 0, o_gP 11 6, o_ald 0, o_gI 11 10, o_ald 0, o_gP 11 16, o_ild 7, o_ald4 21, o_iast, o_ald 0, o_dup, o_gI 11 10, o_ic (nI 1), o_add, o_pI 11 10, o_inc 7 (nI 1), o_goto 91, o_ald 0, o_ic (nI 24), o_callV 215 2 11, o_ald 0, o_ic (nI 24), o_callI 200 2 11, o_iret] := mA (i := 60) (ok_cge (off := 20) (pc := 98) (tgt := 118) rfl rfl rfl (by decide +kernel) (by decide +kernel)) (
  mA (i := 61) (ok_ald_n (f := 0) (pc := 101) rfl rfl rfl (by decide +kernel)) (
  mA (i := 62) (ok_ald_n (f := 0) (pc := 102) rfl rfl rfl (by decide +kernel)) (
  mA (i := 63) (ok_ild_n (f := 1) (pc := 103) rfl rfl rfl (by decide +kernel)) (
  mA (i := 64) (ok_ild (pc := 104) rfl rfl (by decide +kernel)) (
  mA (i := 65) (ok_callI (pc := 106) (can_V cal_N_codeAt (by decide +kernel) rfl (by decide +kernel) rfl wd_610 wd_611 wd_612 wd_605 (by decide +kernel)) rfl rfl) (
  mA (i := 66) (ok_callV (pc := 109) (can_V cal_N_puts (by decide +kernel) rfl (by decide +kernel) rfl wd_679 wd_680 wd_681 wd_605 (by decide +kernel)) rfl rfl) (
  mA (i := 67) (ok_inc (z := 1) (pc := 112) (by decide +kernel) (by decide +kernel) rfl rfl rfl (by decide +kernel)) (
  mA (i := 68) (ok_goto (off := (-24)) (pc := 115) (tgt := 91) rfl rfl (by decide +kernel) (by decide +kernel)) (
  mA (i := 69) (ok_ald_n (f := 0) (pc := 118) rfl rfl rfl (by decide +kernel)) (
  mA (i := 70) (ok_ild_n (f := 2) (pc := 119) rfl rfl rfl (by decide +kernel)) (
  mA (i := 71) (ok_ild_n (f := 3) (pc := 120) rfl rfl rfl (by decide +kernel)) (
  mA (i := 72) (ok_callI (pc := 121) (can_V cal_N_unites (by decide +kernel) rfl (by decide +kernel) rfl wd_758 wd_759 wd_760 wd_605 (by decide +kernel)) rfl rfl) (
  mA (i := 73) (ok_ist (pc := 124) (by decide +kernel) rfl rfl rfl (by decide +kernel)) (
  mA (i := 74) (ok_ild (pc := 126) rfl rfl (by decide +kernel)) (
  mA (i := 75) (ok_ifeq (off := 6) (pc := 128) (tgt := 134) rfl rfl rfl (by decide +kernel) (by decide +kernel)) (
  mA (i := 76) (ok_ild (pc := 131) rfl rfl (by decide +kernel)) (
  mA (i := 77) (ok_iret (pc := 133) rfl rfl (by decide +kernel)) (
  mA (i := 78) (ok_ald_n (f := 0) (pc := 134) rfl rfl rfl (by decide +kernel)) (
  mA (i := 79) (ok_ild_n (f := 3) (pc := 135) rfl rfl rfl (by decide +kernel)) (
  mA (i := 80) (ok_callI (pc := 136) (can_V cal_N_putBegin (by decide +kernel) rfl (by decide +kernel) rfl wd_752 wd_753 wd_754 wd_605 (by decide +kernel)) rfl rfl) (
  mA (i := 81) (ok_ist (pc := 139) (by decide +kernel) rfl rfl rfl (by decide +kernel)) (
  mA (i := 82) (ok_ald_n (f := 0) (pc := 141) rfl rfl rfl (by decide +kernel)) (
  mA (i := 83) (ok_ild (pc := 142) rfl rfl (by decide +kernel)) (
  mA (i := 84) (ok_callI (pc := 144) (can_V cal_N_pastOfPut (by decide +kernel) rfl (by decide +kernel) rfl wd_675 wd_676 wd_677 wd_605 (by decide +kernel)) rfl rfl) (
  mA (i := 85) (ok_ist (pc := 147) (by decide +kernel) rfl rfl rfl (by decide +kernel)) (
  mA (i := 86) (ok_ald_n (f := 0) (pc := 149) rfl rfl rfl (by decide +kernel)) (
  mA (i := 87) (ok_ic (n := 0) (pc := 150) (by decide +kernel) rfl rfl (by decide +kernel)) (
  mA (i := 88) (ok_pI (pc := 151) rfl (by decide +kernel) wd_633 inw_11 tyX10_ok nmX10 rfl (by decide +kernel) rfl rfl (by decide +kernel)) (
  mA (i := 89) (ok_ic (n := 0) (pc := 154) (by decide +kernel) rfl rfl (by decide +kernel)) (
  mA (i := 90) (ok_ist (pc := 155) (by decide +kernel) rfl rfl rfl (by decide +kernel)) (
  mA (i := 91) (ok_ild (pc := 157) rfl rfl (by decide +kernel)) (
  mA (i := 92) (ok_ald_n (f := 0) (pc := 159) rfl rfl rfl (by decide +kernel)) (
  mA (i := 93) (ok_gI (pc := 160) rfl (by decide +kernel) wd_674 inw_11 rfl rfl (by decide +kernel)) (
  mA (i := 94) (ok_cge (off := 55) (pc := 163) (tgt := 218) rfl rfl rfl (by decide +kernel) (by decide +kernel)) (
  mA (i := 95) (ok_ild (pc := 166) rfl rfl (by decide +kernel)) (
  mA (i := 96) (ok_i2l (pc := 168) rfl rfl (by decide +kernel)) (
  mA (i := 97) (ok_ild (pc := 169) rfl rfl (by decide +kernel)) (
  mA (i := 98) (ok_i2l (pc := 171) rfl rfl (by decide +kernel)) (
  mA (i := 99) (ok_ild (pc := 172) rfl rfl (by decide +kernel)) (
  mA (i := 100) (ok_ic (n := 1) (pc := 174) (by decide +kernel) rfl rfl (by decide +kernel)) (
  mA (i := 101) (ok_sub (pc := 175) rfl rfl (by decide +kernel)) (
  mA (i := 102) (ok_i2l (pc := 176) rfl rfl (by decide +kernel)) (
  mA (i := 103) (ok_callI (pc := 177) (can_S cal_N_within (by decide +kernel) wd_606 wd_604 wd_605 (by decide +kernel)) rfl rfl) (
  mA (i := 104) (ok_ifeq (off := 6) (pc := 180) (tgt := 186) rfl rfl rfl (by decide +kernel) (by decide +kernel)) (
  mA (i := 105) (ok_goto (off := 29) (pc := 183) (tgt := 212) rfl rfl (by decide +kernel) (by decide +kernel)) (
  mA (i := 106) (ok_ald_n (f := 0) (pc := 186) rfl rfl rfl (by decide +kernel)) (
  mA (i := 107) (ok_gP (pc := 187) rfl (by decide +kernel) wd_580 inw_11 rfl rfl (by decide +kernel)) (
  mA (i := 108) (ok_ald_n (f := 0) (pc := 190) rfl rfl rfl (by decide +kernel)) (
  mA (i := 109) (ok_gI (pc := 191) rfl (by decide +kernel) wd_633 inw_11 rfl rfl (by decide +kernel)) (
  mA (i := 110) (ok_ald_n (f := 0) (pc := 194) rfl rfl rfl (by decide +kernel)) (
  mA (i := 111) (ok_gP (pc := 195) rfl (by decide +kernel) wd_582 inw_11 rfl rfl (by decide +kernel)) (
  mA (i := 112) (ok_ild (pc := 198) rfl rfl (by decide +kernel)) (
  mA (i := 113) (ok_iald (pc := 200) rfl rfl (by decide +kernel)) (
  mA (i := 114) (ok_iast (pc := 201) rfl rfl (by decide +kernel)) (
  mA (i := 115) (ok_ald_n (f := 0) (pc := 202) rfl rfl rfl (by decide +kernel)) (
  mA (i := 116) (ok_dup (pc := 203) rfl rfl (by decide +kernel)) (
  mA (i := 117) (ok_gI (pc := 204) rfl (by decide +kernel) wd_633 inw_11 rfl rfl (by decide +kernel)) (
  mA (i := 118) (ok_ic (n := 1) (pc := 207) (by decide +kernel) rfl rfl (by decide +kernel)) (
  mA (i := 119) (ok_add (pc := 208) rfl rfl (by decide +kernel)) (
  ok_N_factor_t120))))))))))))))))))))))))))))))))))))))))))))))))))))))))))))
set_option maxRecDepth 20000 in
theorem ok_N_factor : mAll (mOk RX10 cX10_factor 8 true false (some .int) (mnat p_N_factor)) 0 k_N_factor := mA (i := 0) (ok_ald_n (f := 0) (pc := 0) rfl rfl rfl (by decide +kernel)) (
  mA (i := 1) (ok_ic (n := 0) (pc := 1) (by decide +kernel) rfl rfl (by decide +kernel)) (
  mA (i := 2) (ok_pI (pc := 2) rfl (by decide +kernel) wd_618 inw_11 tyX10_ok nmX10 rfl (by decide +kernel) rfl rfl (by decide +kernel)) (
  mA (i := 3) (ok_ald_n (f := 0) (pc := 5) rfl rfl rfl (by decide +kernel)) (
  mA (i := 4) (ok_ild_n (f := 1) (pc := 6) rfl rfl rfl (by decide +kernel)) (
  mA (i := 5) (ok_callI (pc := 7) (can_V cal_N_isClause (by decide +kernel) rfl (by decide +kernel) rfl wd_607 wd_608 wd_609 wd_605 (by decide +kernel)) rfl rfl) (
  mA (i := 6) (ok_ifeq (off := 42) (pc := 10) (tgt := 52) rfl rfl rfl (by decide +kernel) (by decide +kernel)) (
  mA (i := 7) (ok_ild_n (f := 2) (pc := 13) rfl rfl rfl (by decide +kernel)) (
  mA (i := 8) (ok_i2l (pc := 14) rfl rfl (by decide +kernel)) (
  mA (i := 9) (ok_lc (n := 0) (pc := 15) (by decide +kernel) rfl rfl (by decide +kernel)) (
  mA (i := 10) (ok_ald_n (f := 0) (pc := 16) rfl rfl rfl (by decide +kernel)) (
  mA (i := 11) (ok_ild_n (f := 1) (pc := 17) rfl rfl rfl (by decide +kernel)) (
  mA (i := 12) (ok_callI (pc := 18) (can_V cal_N_literalMany (by decide +kernel) rfl (by decide +kernel) rfl wd_671 wd_672 wd_673 wd_605 (by decide +kernel)) rfl rfl) (
  mA (i := 13) (ok_ic (n := 1) (pc := 21) (by decide +kernel) rfl rfl (by decide +kernel)) (
  mA (i := 14) (ok_sub (pc := 22) rfl rfl (by decide +kernel)) (
  mA (i := 15) (ok_i2l (pc := 23) rfl rfl (by decide +kernel)) (
  mA (i := 16) (ok_callI (pc := 24) (can_S cal_N_within (by decide +kernel) wd_606 wd_604 wd_605 (by decide +kernel)) rfl rfl) (
  mA (i := 17) (ok_ifeq (off := 25) (pc := 27) (tgt := 52) rfl rfl rfl (by decide +kernel) (by decide +kernel)) (
  mA (i := 18) (ok_ild_n (f := 3) (pc := 30) rfl rfl rfl (by decide +kernel)) (
  mA (i := 19) (ok_i2l (pc := 31) rfl rfl (by decide +kernel)) (
  mA (i := 20) (ok_lc (n := 0) (pc := 32) (by decide +kernel) rfl rfl (by decide +kernel)) (
  mA (i := 21) (ok_ald_n (f := 0) (pc := 33) rfl rfl rfl (by decide +kernel)) (
  mA (i := 22) (ok_ild_n (f := 1) (pc := 34) rfl rfl rfl (by decide +kernel)) (
  mA (i := 23) (ok_callI (pc := 35) (can_V cal_N_literalMany (by decide +kernel) rfl (by decide +kernel) rfl wd_671 wd_672 wd_673 wd_605 (by decide +kernel)) rfl rfl) (
  mA (i := 24) (ok_ic (n := 1) (pc := 38) (by decide +kernel) rfl rfl (by decide +kernel)) (
  mA (i := 25) (ok_sub (pc := 39) rfl rfl (by decide +kernel)) (
  mA (i := 26) (ok_i2l (pc := 40) rfl rfl (by decide +kernel)) (
  mA (i := 27) (ok_callI (pc := 41) (can_S cal_N_within (by decide +kernel) wd_606 wd_604 wd_605 (by decide +kernel)) rfl rfl) (
  mA (i := 28) (ok_ifeq (off := 8) (pc := 44) (tgt := 52) rfl rfl rfl (by decide +kernel) (by decide +kernel)) (
  mA (i := 29) (ok_ild_n (f := 2) (pc := 47) rfl rfl rfl (by decide +kernel)) (
  mA (i := 30) (ok_ild_n (f := 3) (pc := 48) rfl rfl rfl (by decide +kernel)) (
  mA (i := 31) (ok_cne (off := 6) (pc := 49) (tgt := 55) rfl rfl rfl (by decide +kernel) (by decide +kernel)) (
  mA (i := 32) (ok_bi (n := (-2)) (pc := 52) (by decide +kernel) rfl rfl (by decide +kernel)) (
  mA (i := 33) (ok_iret (pc := 54) rfl rfl (by decide +kernel)) (
  mA (i := 34) (ok_ald_n (f := 0) (pc := 55) rfl rfl rfl (by decide +kernel)) (
  mA (i := 35) (ok_ild_n (f := 1) (pc := 56) rfl rfl rfl (by decide +kernel)) (
  mA (i := 36) (ok_ald_n (f := 0) (pc := 57) rfl rfl rfl (by decide +kernel)) (
  mA (i := 37) (ok_ild_n (f := 1) (pc := 58) rfl rfl rfl (by decide +kernel)) (
  mA (i := 38) (ok_ild_n (f := 2) (pc := 59) rfl rfl rfl (by decide +kernel)) (
  mA (i := 39) (ok_callI (pc := 60) (can_V cal_N_beginOf (by decide +kernel) rfl (by decide +kernel) rfl wd_700 wd_701 wd_702 wd_605 (by decide +kernel)) rfl rfl) (
  mA (i := 40) (ok_callI (pc := 63) (can_V cal_N_codeAt (by decide +kernel) rfl (by decide +kernel) rfl wd_610 wd_611 wd_612 wd_605 (by decide +kernel)) rfl rfl) (
  mA (i := 41) (ok_ald_n (f := 0) (pc := 66) rfl rfl rfl (by decide +kernel)) (
  mA (i := 42) (ok_ild_n (f := 1) (pc := 67) rfl rfl rfl (by decide +kernel)) (
  mA (i := 43) (ok_ald_n (f := 0) (pc := 68) rfl rfl rfl (by decide +kernel)) (
  mA (i := 44) (ok_ild_n (f := 1) (pc := 69) rfl rfl rfl (by decide +kernel)) (
  mA (i := 45) (ok_ild_n (f := 3) (pc := 70) rfl rfl rfl (by decide +kernel)) (
  mA (i := 46) (ok_callI (pc := 71) (can_V cal_N_beginOf (by decide +kernel) rfl (by decide +kernel) rfl wd_700 wd_701 wd_702 wd_605 (by decide +kernel)) rfl rfl) (
  mA (i := 47) (ok_callI (pc := 74) (can_V cal_N_codeAt (by decide +kernel) rfl (by decide +kernel) rfl wd_610 wd_611 wd_612 wd_605 (by decide +kernel)) rfl rfl) (
  mA (i := 48) (ok_ceq (off := 6) (pc := 77) (tgt := 83) rfl rfl rfl (by decide +kernel) (by decide +kernel)) (
  mA (i := 49) (ok_bi (n := (-5)) (pc := 80) (by decide +kernel) rfl rfl (by decide +kernel)) (
  mA (i := 50) (ok_iret (pc := 82) rfl rfl (by decide +kernel)) (
  mA (i := 51) (ok_ald_n (f := 0) (pc := 83) rfl rfl rfl (by decide +kernel)) (
  mA (i := 52) (ok_ic (n := 0) (pc := 84) (by decide +kernel) rfl rfl (by decide +kernel)) (
  mA (i := 53) (ok_pI (pc := 85) rfl (by decide +kernel) wd_674 inw_11 tyX10_ok nmX10 rfl (by decide +kernel) rfl rfl (by decide +kernel)) (
  mA (i := 54) (ok_ic (n := 0) (pc := 88) (by decide +kernel) rfl rfl (by decide +kernel)) (
  mA (i := 55) (ok_ist (pc := 89) (by decide +kernel) rfl rfl rfl (by decide +kernel)) (
  mA (i := 56) (ok_ild (pc := 91) rfl rfl (by decide +kernel)) (
  mA (i := 57) (ok_ald_n (f := 0) (pc := 93) rfl rfl rfl (by decide +kernel)) (
  mA (i := 58) (ok_ild_n (f := 1) (pc := 94) rfl rfl rfl (by decide +kernel)) (
  mA (i := 59) (ok_callI (pc := 95) (can_V cal_N_longOf (by decide +kernel) rfl (by decide +kernel) rfl wd_615 wd_616 wd_617 wd_605 (by decide +kernel)) rfl rfl) (
  ok_N_factor_t60))))))))))))))))))))))))))))))))))))))))))))))))))))))))))))
set_option maxRecDepth 20000 in
theorem ok_N_bitsOf : mAll (mOk RX10 cX10_bitsOf 3 true false (some .int) (mnat p_N_bitsOf)) 0 k_N_bitsOf := mA (i := 0) (ok_ic (n := 0) (pc := 0) (by decide +kernel) rfl rfl (by decide +kernel)) (
  mA (i := 1) (ok_ist_n (f := 1) (pc := 1) rfl (by decide +kernel) rfl rfl rfl (by decide +kernel)) (
  mA (i := 2) (ok_ic (n := 0) (pc := 2) (by decide +kernel) rfl rfl (by decide +kernel)) (
  mA (i := 3) (ok_ist_n (f := 2) (pc := 3) rfl (by decide +kernel) rfl rfl rfl (by decide +kernel)) (
  mA (i := 4) (ok_ild_n (f := 2) (pc := 4) rfl rfl rfl (by decide +kernel)) (
  mA (i := 5) (ok_ic (n := 5) (pc := 5) (by decide +kernel) rfl rfl (by decide +kernel)) (
  mA (i := 6) (ok_cge (off := 17) (pc := 6) (tgt := 23) rfl rfl rfl (by decide +kernel) (by decide +kernel)) (
  mA (i := 7) (ok_ild_n (f := 1) (pc := 9) rfl rfl rfl (by decide +kernel)) (
  mA (i := 8) (ok_ild_n (f := 0) (pc := 10) rfl rfl rfl (by decide +kernel)) (
  mA (i := 9) (ok_ild_n (f := 2) (pc := 11) rfl rfl rfl (by decide +kernel)) (
  mA (i := 10) (ok_shr (pc := 12) rfl rfl (by decide +kernel)) (
  mA (i := 11) (ok_ic (n := 1) (pc := 13) (by decide +kernel) rfl rfl (by decide +kernel)) (
  mA (i := 12) (ok_and (pc := 14) rfl rfl (by decide +kernel)) (
  mA (i := 13) (ok_add (pc := 15) rfl rfl (by decide +kernel)) (
  mA (i := 14) (ok_ist_n (f := 1) (pc := 16) rfl (by decide +kernel) rfl rfl rfl (by decide +kernel)) (
  mA (i := 15) (ok_inc (z := 1) (pc := 17) (by decide +kernel) (by decide +kernel) rfl rfl rfl (by decide +kernel)) (
  mA (i := 16) (ok_goto (off := (-16)) (pc := 20) (tgt := 4) rfl rfl (by decide +kernel) (by decide +kernel)) (
  mA (i := 17) (ok_ild_n (f := 1) (pc := 23) rfl rfl rfl (by decide +kernel)) (
  mA (i := 18) (ok_iret (pc := 24) rfl rfl (by decide +kernel)) (
  mZ)))))))))))))))))))
set_option maxRecDepth 20000 in
theorem ok_N_condensed : mAll (mOk RX10 cX10_condensed 5 true false (some .int) (mnat p_N_condensed)) 0 k_N_condensed := mA (i := 0) (ok_ald_n (f := 0) (pc := 0) rfl rfl rfl (by decide +kernel)) (
  mA (i := 1) (ok_ic (n := 0) (pc := 1) (by decide +kernel) rfl rfl (by decide +kernel)) (
  mA (i := 2) (ok_pI (pc := 2) rfl (by decide +kernel) wd_618 inw_11 tyX10_ok nmX10 rfl (by decide +kernel) rfl rfl (by decide +kernel)) (
  mA (i := 3) (ok_ald_n (f := 0) (pc := 5) rfl rfl rfl (by decide +kernel)) (
  mA (i := 4) (ok_ild_n (f := 1) (pc := 6) rfl rfl rfl (by decide +kernel)) (
  mA (i := 5) (ok_callI (pc := 7) (can_V cal_N_isClause (by decide +kernel) rfl (by decide +kernel) rfl wd_607 wd_608 wd_609 wd_605 (by decide +kernel)) rfl rfl) (
  mA (i := 6) (ok_ifeq (off := 13) (pc := 10) (tgt := 23) rfl rfl rfl (by decide +kernel) (by decide +kernel)) (
  mA (i := 7) (ok_ild_n (f := 2) (pc := 13) rfl rfl rfl (by decide +kernel)) (
  mA (i := 8) (ok_i2l (pc := 14) rfl rfl (by decide +kernel)) (
  mA (i := 9) (ok_lc (n := 0) (pc := 15) (by decide +kernel) rfl rfl (by decide +kernel)) (
  mA (i := 10) (ok_lc (n := 1) (pc := 16) (by decide +kernel) rfl rfl (by decide +kernel)) (
  mA (i := 11) (ok_callI (pc := 17) (can_S cal_N_within (by decide +kernel) wd_606 wd_604 wd_605 (by decide +kernel)) rfl rfl) (
  mA (i := 12) (ok_ifne (off := 6) (pc := 20) (tgt := 26) rfl rfl rfl (by decide +kernel) (by decide +kernel)) (
  mA (i := 13) (ok_bi (n := (-2)) (pc := 23) (by decide +kernel) rfl rfl (by decide +kernel)) (
  mA (i := 14) (ok_iret (pc := 25) rfl rfl (by decide +kernel)) (
  mA (i := 15) (ok_ic (n := 1) (pc := 26) (by decide +kernel) rfl rfl (by decide +kernel)) (
  mA (i := 16) (ok_ald_n (f := 0) (pc := 27) rfl rfl rfl (by decide +kernel)) (
  mA (i := 17) (ok_ild_n (f := 1) (pc := 28) rfl rfl rfl (by decide +kernel)) (
  mA (i := 18) (ok_callI (pc := 29) (can_V cal_N_literalMany (by decide +kernel) rfl (by decide +kernel) rfl wd_671 wd_672 wd_673 wd_605 (by decide +kernel)) rfl rfl) (
  mA (i := 19) (ok_shl (pc := 32) rfl rfl (by decide +kernel)) (
  mA (i := 20) (ok_ic (n := 1) (pc := 33) (by decide +kernel) rfl rfl (by decide +kernel)) (
  mA (i := 21) (ok_sub (pc := 34) rfl rfl (by decide +kernel)) (
  mA (i := 22) (ok_ist_n (f := 3) (pc := 35) rfl (by decide +kernel) rfl rfl rfl (by decide +kernel)) (
  mA (i := 23) (ok_ild_n (f := 3) (pc := 36) rfl rfl rfl (by decide +kernel)) (
  mA (i := 24) (ok_ic (n := 1) (pc := 37) (by decide +kernel) rfl rfl (by decide +kernel)) (
  mA (i := 25) (ok_sub (pc := 38) rfl rfl (by decide +kernel)) (
  mA (i := 26) (ok_ist (pc := 39) (by decide +kernel) rfl rfl rfl (by decide +kernel)) (
  mA (i := 27) (ok_ild (pc := 41) rfl rfl (by decide +kernel)) (
  mA (i := 28) (ok_iflt (off := 37) (pc := 43) (tgt := 80) rfl rfl rfl (by decide +kernel) (by decide +kernel)) (
  mA (i := 29) (ok_ild (pc := 46) rfl rfl (by decide +kernel)) (
  mA (i := 30) (ok_callI (pc := 48) (can_S cal_N_bitsOf (by decide +kernel) wd_762 wd_761 wd_605 (by decide +kernel)) rfl rfl) (
  mA (i := 31) (ok_ild_n (f := 3) (pc := 51) rfl rfl rfl (by decide +kernel)) (
  mA (i := 32) (ok_callI (pc := 52) (can_S cal_N_bitsOf (by decide +kernel) wd_762 wd_761 wd_605 (by decide +kernel)) rfl rfl) (
  mA (i := 33) (ok_cgt (off := 19) (pc := 55) (tgt := 74) rfl rfl rfl (by decide +kernel) (by decide +kernel)) (
  mA (i := 34) (ok_ald_n (f := 0) (pc := 58) rfl rfl rfl (by decide +kernel)) (
  mA (i := 35) (ok_ild_n (f := 1) (pc := 59) rfl rfl rfl (by decide +kernel)) (
  mA (i := 36) (ok_ild_n (f := 1) (pc := 60) rfl rfl rfl (by decide +kernel)) (
  mA (i := 37) (ok_ic (n := 0) (pc := 61) (by decide +kernel) rfl rfl (by decide +kernel)) (
  mA (i := 38) (ok_ild (pc := 62) rfl rfl (by decide +kernel)) (
  mA (i := 39) (ok_ic (n := 1) (pc := 64) (by decide +kernel) rfl rfl (by decide +kernel)) (
  mA (i := 40) (ok_callI (pc := 65) (can_V cal_N_waysTo (by decide +kernel) rfl (by decide +kernel) rfl wd_736 wd_737 wd_738 wd_605 (by decide +kernel)) rfl rfl) (
  mA (i := 41) (ok_ifle (off := 6) (pc := 68) (tgt := 74) rfl rfl rfl (by decide +kernel) (by decide +kernel)) (
  mA (i := 42) (ok_ild (pc := 71) rfl rfl (by decide +kernel)) (
  mA (i := 43) (ok_ist_n (f := 3) (pc := 73) rfl (by decide +kernel) rfl rfl rfl (by decide +kernel)) (
  mA (i := 44) (ok_inc (z := (-1)) (pc := 74) (by decide +kernel) (by decide +kernel) rfl rfl rfl (by decide +kernel)) (
  mA (i := 45) (ok_goto (off := (-36)) (pc := 77) (tgt := 41) rfl rfl (by decide +kernel) (by decide +kernel)) (
  mA (i := 46) (ok_ild_n (f := 2) (pc := 80) rfl rfl rfl (by decide +kernel)) (
  mA (i := 47) (ok_ifne (off := 10) (pc := 81) (tgt := 91) rfl rfl rfl (by decide +kernel) (by decide +kernel)) (
  mA (i := 48) (ok_ild_n (f := 3) (pc := 84) rfl rfl rfl (by decide +kernel)) (
  mA (i := 49) (ok_callI (pc := 85) (can_S cal_N_bitsOf (by decide +kernel) wd_762 wd_761 wd_605 (by decide +kernel)) rfl rfl) (
  mA (i := 50) (ok_goto (off := 4) (pc := 88) (tgt := 92) rfl rfl (by decide +kernel) (by decide +kernel)) (
  mA (i := 51) (ok_ild_n (f := 3) (pc := 91) rfl rfl rfl (by decide +kernel)) (
  mA (i := 52) (ok_iret (pc := 92) rfl rfl (by decide +kernel)) (
  mZ)))))))))))))))))))))))))))))))))))))))))))))))))))))
set_option maxRecDepth 20000 in
theorem ok_N_valueOf_t60 : mAll (mOk RX10 cX10_valueOf 9 true false (some .int) (mnat p_N_valueOf)) 60 [o_add, o_ist 4, o_goto 100, o_ild 2, o_ic (nI 24), o_cge 80, o_ild 4, o_ild 8, o_ild 2, o_ic (nI 8), o_sub, o_ic (nI 2), o_div, o_cne 76, o_ic (nI 1), o_goto 77, o_ic (nI 0), o_add, o_ist 4, o_goto 100, o_ild 8, o_ild 2, o_ic (nI 24), o_sub, o_ic (nI 2), o_div, o_cne 100, o_ald 0, o_ild 1, o_ild 7, o_callI 263 3 11, o_ild 4, o_cle 98, o_ald 0, o_ild 1, o_ild 7, o_callI 263 3 11, o_goto 99, o_ild 4, o_ist 4, o_inc 7 (nI 1), o_goto 8, o_ild 3, o_ifne 112, o_ild 2, o_ic (nI 24), o_cge 112, o_ild 4, o_ic (nI 1), o_cle 112, o_ic (nI 1), o_goto 113, o_ild 4, o_iret] := mA (i := 60) (ok_add (pc := 106) rfl rfl (by decide +kernel)) (
  mA (i := 61) (ok_ist (pc := 107) (by decide +kernel) rfl rfl rfl (by decide +kernel)) (
  mA (i := 62) (ok_goto (off := 70) (pc := 109) (tgt := 179) rfl rfl (by decide +kernel) (by decide +kernel)) (
  mA (i := 63) (ok_ild_n (f := 2) (pc := 112) rfl rfl rfl (by decide +kernel)) (
  mA (i := 64) (ok_bi (n := 24) (pc := 113) (by decide +kernel) rfl rfl (by decide +kernel)) (
  mA (i := 65) (ok_cge (off := 27) (pc := 115) (tgt := 142) rfl rfl rfl (by decide +kernel) (by decide +kernel)) (
  mA (i := 66) (ok_ild (pc := 118) rfl rfl (by decide +kernel)) (
  mA (i := 67) (ok_ild (pc := 120) rfl rfl (by decide +kernel)) (
  mA (i := 68) (ok_ild_n (f := 2) (pc := 122) rfl rfl rfl (by decide +kernel)) (
  mA (i := 69) (ok_bi (n := 8) (pc := 123) (by decide +kernel) rfl rfl (by decide +kernel)) (
  mA (i := 70) (ok_sub (pc := 125) rfl rfl (by decide +kernel)) (
  mA (i := 71) (ok_ic (n := 2) (pc := 126) (by decide +kernel) rfl rfl (by decide +kernel)) (
  mA (i := 72) (ok_div (pc := 127) rfl rfl (by decide +kernel)) (
  mA (i := 73) (ok_cne (off := 7) (pc := 128) (tgt := 135) rfl rfl rfl (by decide +kernel) (by decide +kernel)) (
  mA (i := 74) (ok_ic (n := 1) (pc := 131) (by decide +kernel) rfl rfl (by decide +kernel)) (
  mA (i := 75) (ok_goto (off := 4) (pc := 132) (tgt := 136) rfl rfl (by decide +kernel) (by decide +kernel)) (
  mA (i := 76) (ok_ic (n := 0) (pc := 135) (by decide +kernel) rfl rfl (by decide +kernel)) (
  mA (i := 77) (ok_add (pc := 136) rfl rfl (by decide +kernel)) (
  mA (i := 78) (ok_ist (pc := 137) (by decide +kernel) rfl rfl rfl (by decide +kernel)) (
  mA (i := 79) (ok_goto (off := 40) (pc := 139) (tgt := 179) rfl rfl (by decide +kernel) (by decide +kernel)) (
  mA (i := 80) (ok_ild (pc := 142) rfl rfl (by decide +kernel)) (
  mA (i := 81) (ok_ild_n (f := 2) (pc := 144) rfl rfl rfl (by decide +kernel)) (
  mA (i := 82) (ok_bi (n := 24) (pc := 145) (by decide +kernel) rfl rfl (by decide +kernel)) (
  mA (i := 83) (ok_sub (pc := 147) rfl rfl (by decide +kernel)) (
  mA (i := 84) (ok_ic (n := 2) (pc := 148) (by decide +kernel) rfl rfl (by decide +kernel)) (
  mA (i := 85) (ok_div (pc := 149) rfl rfl (by decide +kernel)) (
  mA (i := 86) (ok_cne (off := 29) (pc := 150) (tgt := 179) rfl rfl rfl (by decide +kernel) (by decide +kernel)) (
  mA (i := 87) (ok_ald_n (f := 0) (pc := 153) rfl rfl rfl (by decide +kernel)) (
  mA (i := 88) (ok_ild_n (f := 1) (pc := 154) rfl rfl rfl (by decide +kernel)) (
  mA (i := 89) (ok_ild (pc := 155) rfl rfl (by decide +kernel)) (
  mA (i := 90) (ok_callI (pc := 157) (can_V cal_N_depthOf (by decide +kernel) rfl (by decide +kernel) rfl wd_763 wd_764 wd_765 wd_605 (by decide +kernel)) rfl rfl) (
  mA (i := 91) (ok_ild (pc := 160) rfl rfl (by decide +kernel)) (
  mA (i := 92) (ok_cle (off := 13) (pc := 162) (tgt := 175) rfl rfl rfl (by decide +kernel) (by decide +kernel)) (
  mA (i := 93) (ok_ald_n (f := 0) (pc := 165) rfl rfl rfl (by decide +kernel)) (
  mA (i := 94) (ok_ild_n (f := 1) (pc := 166) rfl rfl rfl (by decide +kernel)) (
  mA (i := 95) (ok_ild (pc := 167) rfl rfl (by decide +kernel)) (
  mA (i := 96) (ok_callI (pc := 169) (can_V cal_N_depthOf (by decide +kernel) rfl (by decide +kernel) rfl wd_763 wd_764 wd_765 wd_605 (by decide +kernel)) rfl rfl) (
  mA (i := 97) (ok_goto (off := 5) (pc := 172) (tgt := 177) rfl rfl (by decide +kernel) (by decide +kernel)) (
  mA (i := 98) (ok_ild (pc := 175) rfl rfl (by decide +kernel)) (
  mA (i := 99) (ok_ist (pc := 177) (by decide +kernel) rfl rfl rfl (by decide +kernel)) (
  mA (i := 100) (ok_inc (z := 1) (pc := 179) (by decide +kernel) (by decide +kernel) rfl rfl rfl (by decide +kernel)) (
  mA (i := 101) (ok_goto (off := (-170)) (pc := 182) (tgt := 12) rfl rfl (by decide +kernel) (by decide +kernel)) (
  mA (i := 102) (ok_ild_n (f := 3) (pc := 185) rfl rfl rfl (by decide +kernel)) (
  mA (i := 103) (ok_ifne (off := 19) (pc := 186) (tgt := 205) rfl rfl rfl (by decide +kernel) (by decide +kernel)) (
  mA (i := 104) (ok_ild_n (f := 2) (pc := 189) rfl rfl rfl (by decide +kernel)) (
  mA (i := 105) (ok_bi (n := 24) (pc := 190) (by decide +kernel) rfl rfl (by decide +kernel)) (
  mA (i := 106) (ok_cge (off := 13) (pc := 192) (tgt := 205) rfl rfl rfl (by decide +kernel) (by decide +kernel)) (
  mA (i := 107) (ok_ild (pc := 195) rfl rfl (by decide +kernel)) (
  mA (i := 108) (ok_ic (n := 1) (pc := 197) (by decide +kernel) rfl rfl (by decide +kernel)) (
  mA (i := 109) (ok_cle (off := 7) (pc := 198) (tgt := 205) rfl rfl rfl (by decide +kernel) (by decide +kernel)) (
  mA (i := 110) (ok_ic (n := 1) (pc := 201) (by decide +kernel) rfl rfl (by decide +kernel)) (
  mA (i := 111) (ok_goto (off := 5) (pc := 202) (tgt := 207) rfl rfl (by decide +kernel) (by decide +kernel)) (
  mA (i := 112) (ok_ild (pc := 205) rfl rfl (by decide +kernel)) (
  mA (i := 113) (ok_iret (pc := 207) rfl rfl (by decide +kernel)) (
  mZ))))))))))))))))))))))))))))))))))))))))))))))))))))))
set_option maxRecDepth 20000 in
theorem ok_N_valueOf : mAll (mOk RX10 cX10_valueOf 9 true false (some .int) (mnat p_N_valueOf)) 0 k_N_valueOf := mA (i := 0) (ok_ic (n := 0) (pc := 0) (by decide +kernel) rfl rfl (by decide +kernel)) (
  mA (i := 1) (ok_ist (pc := 1) (by decide +kernel) rfl rfl rfl (by decide +kernel)) (
  mA (i := 2) (ok_ic (n := 0) (pc := 3) (by decide +kernel) rfl rfl (by decide +kernel)) (
  mA (i := 3) (ok_ist (pc := 4) (by decide +kernel) rfl rfl rfl (by decide +kernel)) (
  mA (i := 4) (ok_ic (n := 0) (pc := 6) (by decide +kernel) rfl rfl (by decide +kernel)) (
  mA (i := 5) (ok_ist (pc := 7) (by decide +kernel) rfl rfl rfl (by decide +kernel)) (
  mA (i := 6) (ok_ic (n := 0) (pc := 9) (by decide +kernel) rfl rfl (by decide +kernel)) (
  mA (i := 7) (ok_ist (pc := 10) (by decide +kernel) rfl rfl rfl (by decide +kernel)) (
  mA (i := 8) (ok_ild (pc := 12) rfl rfl (by decide +kernel)) (
  mA (i := 9) (ok_ald_n (f := 0) (pc := 14) rfl rfl rfl (by decide +kernel)) (
  mA (i := 10) (ok_ild_n (f := 1) (pc := 15) rfl rfl rfl (by decide +kernel)) (
  mA (i := 11) (ok_callI (pc := 16) (can_V cal_N_longOf (by decide +kernel) rfl (by decide +kernel) rfl wd_615 wd_616 wd_617 wd_605 (by decide +kernel)) rfl rfl) (
  mA (i := 12) (ok_cge (off := 166) (pc := 19) (tgt := 185) rfl rfl rfl (by decide +kernel) (by decide +kernel)) (
  mA (i := 13) (ok_ald_n (f := 0) (pc := 22) rfl rfl rfl (by decide +kernel)) (
  mA (i := 14) (ok_ild_n (f := 1) (pc := 23) rfl rfl rfl (by decide +kernel)) (
  mA (i := 15) (ok_ild (pc := 24) rfl rfl (by decide +kernel)) (
  mA (i := 16) (ok_callI (pc := 26) (can_V cal_N_codeAt (by decide +kernel) rfl (by decide +kernel) rfl wd_610 wd_611 wd_612 wd_605 (by decide +kernel)) rfl rfl) (
  mA (i := 17) (ok_ist (pc := 29) (by decide +kernel) rfl rfl rfl (by decide +kernel)) (
  mA (i := 18) (ok_ild (pc := 31) rfl rfl (by decide +kernel)) (
  mA (i := 19) (ok_bi (n := 100) (pc := 33) (by decide +kernel) rfl rfl (by decide +kernel)) (
  mA (i := 20) (ok_clt (off := 18) (pc := 35) (tgt := 53) rfl rfl rfl (by decide +kernel) (by decide +kernel)) (
  mA (i := 21) (ok_ild (pc := 38) rfl rfl (by decide +kernel)) (
  mA (i := 22) (ok_ic (n := 2) (pc := 40) (by decide +kernel) rfl rfl (by decide +kernel)) (
  mA (i := 23) (ok_rem (pc := 41) rfl rfl (by decide +kernel)) (
  mA (i := 24) (ok_ic (n := 1) (pc := 42) (by decide +kernel) rfl rfl (by decide +kernel)) (
  mA (i := 25) (ok_cne (off := 7) (pc := 43) (tgt := 50) rfl rfl rfl (by decide +kernel) (by decide +kernel)) (
  mA (i := 26) (ok_ic (n := 1) (pc := 46) (by decide +kernel) rfl rfl (by decide +kernel)) (
  mA (i := 27) (ok_goto (off := 4) (pc := 47) (tgt := 51) rfl rfl (by decide +kernel) (by decide +kernel)) (
  mA (i := 28) (ok_ic (n := 0) (pc := 50) (by decide +kernel) rfl rfl (by decide +kernel)) (
  mA (i := 29) (ok_ist (pc := 51) (by decide +kernel) rfl rfl rfl (by decide +kernel)) (
  mA (i := 30) (ok_ild_n (f := 2) (pc := 53) rfl rfl rfl (by decide +kernel)) (
  mA (i := 31) (ok_ic (n := 2) (pc := 54) (by decide +kernel) rfl rfl (by decide +kernel)) (
  mA (i := 32) (ok_rem (pc := 55) rfl rfl (by decide +kernel)) (
  mA (i := 33) (ok_ic (n := 1) (pc := 56) (by decide +kernel) rfl rfl (by decide +kernel)) (
  mA (i := 34) (ok_cne (off := 7) (pc := 57) (tgt := 64) rfl rfl rfl (by decide +kernel) (by decide +kernel)) (
  mA (i := 35) (ok_ic (n := 1) (pc := 60) (by decide +kernel) rfl rfl (by decide +kernel)) (
  mA (i := 36) (ok_goto (off := 4) (pc := 61) (tgt := 65) rfl rfl (by decide +kernel) (by decide +kernel)) (
  mA (i := 37) (ok_ic (n := 0) (pc := 64) (by decide +kernel) rfl rfl (by decide +kernel)) (
  mA (i := 38) (ok_ild (pc := 65) rfl rfl (by decide +kernel)) (
  mA (i := 39) (ok_ceq (off := 6) (pc := 67) (tgt := 73) rfl rfl rfl (by decide +kernel) (by decide +kernel)) (
  mA (i := 40) (ok_goto (off := 109) (pc := 70) (tgt := 179) rfl rfl (by decide +kernel) (by decide +kernel)) (
  mA (i := 41) (ok_ild_n (f := 2) (pc := 73) rfl rfl rfl (by decide +kernel)) (
  mA (i := 42) (ok_bi (n := 8) (pc := 74) (by decide +kernel) rfl rfl (by decide +kernel)) (
  mA (i := 43) (ok_cge (off := 36) (pc := 76) (tgt := 112) rfl rfl rfl (by decide +kernel) (by decide +kernel)) (
  mA (i := 44) (ok_ild (pc := 79) rfl rfl (by decide +kernel)) (
  mA (i := 45) (ok_ild (pc := 81) rfl rfl (by decide +kernel)) (
  mA (i := 46) (ok_bi (n := 100) (pc := 83) (by decide +kernel) rfl rfl (by decide +kernel)) (
  mA (i := 47) (ok_clt (off := 20) (pc := 85) (tgt := 105) rfl rfl rfl (by decide +kernel) (by decide +kernel)) (
  mA (i := 48) (ok_ild (pc := 88) rfl rfl (by decide +kernel)) (
  mA (i := 49) (ok_bi (n := 100) (pc := 90) (by decide +kernel) rfl rfl (by decide +kernel)) (
  mA (i := 50) (ok_sub (pc := 92) rfl rfl (by decide +kernel)) (
  mA (i := 51) (ok_ic (n := 2) (pc := 93) (by decide +kernel) rfl rfl (by decide +kernel)) (
  mA (i := 52) (ok_div (pc := 94) rfl rfl (by decide +kernel)) (
  mA (i := 53) (ok_ild_n (f := 2) (pc := 95) rfl rfl rfl (by decide +kernel)) (
  mA (i := 54) (ok_ic (n := 2) (pc := 96) (by decide +kernel) rfl rfl (by decide +kernel)) (
  mA (i := 55) (ok_div (pc := 97) rfl rfl (by decide +kernel)) (
  mA (i := 56) (ok_cne (off := 7) (pc := 98) (tgt := 105) rfl rfl rfl (by decide +kernel) (by decide +kernel)) (
  mA (i := 57) (ok_ic (n := 1) (pc := 101) (by decide +kernel) rfl rfl (by decide +kernel)) (
  mA (i := 58) (ok_goto (off := 4) (pc := 102) (tgt := 106) rfl rfl (by decide +kernel) (by decide +kernel)) (
  mA (i := 59) (ok_ic (n := 0) (pc := 105) (by decide +kernel) rfl rfl (by decide +kernel)) (
  ok_N_valueOf_t60))))))))))))))))))))))))))))))))))))))))))))))))))))))))))))
set_option maxRecDepth 20000 in
theorem ok_N_depthOf : mAll (mOk RX10 cX10_depthOf 5 true false (some .int) (mnat p_N_depthOf)) 0 k_N_depthOf := mA (i := 0) (ok_ic (n := 1) (pc := 0) (by decide +kernel) rfl rfl (by decide +kernel)) (
  mA (i := 1) (ok_ist_n (f := 3) (pc := 1) rfl (by decide +kernel) rfl rfl rfl (by decide +kernel)) (
  mA (i := 2) (ok_ic (n := 0) (pc := 2) (by decide +kernel) rfl rfl (by decide +kernel)) (
  mA (i := 3) (ok_ist (pc := 3) (by decide +kernel) rfl rfl rfl (by decide +kernel)) (
  mA (i := 4) (ok_ild (pc := 5) rfl rfl (by decide +kernel)) (
  mA (i := 5) (ok_ild_n (f := 2) (pc := 7) rfl rfl rfl (by decide +kernel)) (
  mA (i := 6) (ok_cge (off := 40) (pc := 8) (tgt := 48) rfl rfl rfl (by decide +kernel) (by decide +kernel)) (
  mA (i := 7) (ok_ild_n (f := 3) (pc := 11) rfl rfl rfl (by decide +kernel)) (
  mA (i := 8) (ok_ald_n (f := 0) (pc := 12) rfl rfl rfl (by decide +kernel)) (
  mA (i := 9) (ok_ild_n (f := 1) (pc := 13) rfl rfl rfl (by decide +kernel)) (
  mA (i := 10) (ok_ild (pc := 14) rfl rfl (by decide +kernel)) (
  mA (i := 11) (ok_callI (pc := 16) (can_V cal_N_codeAt (by decide +kernel) rfl (by decide +kernel) rfl wd_610 wd_611 wd_612 wd_605 (by decide +kernel)) rfl rfl) (
  mA (i := 12) (ok_bi (n := 100) (pc := 19) (by decide +kernel) rfl rfl (by decide +kernel)) (
  mA (i := 13) (ok_cge (off := 18) (pc := 21) (tgt := 39) rfl rfl rfl (by decide +kernel) (by decide +kernel)) (
  mA (i := 14) (ok_ald_n (f := 0) (pc := 24) rfl rfl rfl (by decide +kernel)) (
  mA (i := 15) (ok_ild_n (f := 1) (pc := 25) rfl rfl rfl (by decide +kernel)) (
  mA (i := 16) (ok_ild (pc := 26) rfl rfl (by decide +kernel)) (
  mA (i := 17) (ok_callI (pc := 28) (can_V cal_N_pastOf (by decide +kernel) rfl (by decide +kernel) rfl wd_703 wd_704 wd_705 wd_605 (by decide +kernel)) rfl rfl) (
  mA (i := 18) (ok_ild_n (f := 2) (pc := 31) rfl rfl rfl (by decide +kernel)) (
  mA (i := 19) (ok_cle (off := 7) (pc := 32) (tgt := 39) rfl rfl rfl (by decide +kernel) (by decide +kernel)) (
  mA (i := 20) (ok_ic (n := 1) (pc := 35) (by decide +kernel) rfl rfl (by decide +kernel)) (
  mA (i := 21) (ok_goto (off := 4) (pc := 36) (tgt := 40) rfl rfl (by decide +kernel) (by decide +kernel)) (
  mA (i := 22) (ok_ic (n := 0) (pc := 39) (by decide +kernel) rfl rfl (by decide +kernel)) (
  mA (i := 23) (ok_add (pc := 40) rfl rfl (by decide +kernel)) (
  mA (i := 24) (ok_ist_n (f := 3) (pc := 41) rfl (by decide +kernel) rfl rfl rfl (by decide +kernel)) (
  mA (i := 25) (ok_inc (z := 1) (pc := 42) (by decide +kernel) (by decide +kernel) rfl rfl rfl (by decide +kernel)) (
  mA (i := 26) (ok_goto (off := (-40)) (pc := 45) (tgt := 5) rfl rfl (by decide +kernel) (by decide +kernel)) (
  mA (i := 27) (ok_ild_n (f := 3) (pc := 48) rfl rfl rfl (by decide +kernel)) (
  mA (i := 28) (ok_iret (pc := 49) rfl rfl (by decide +kernel)) (
  mZ)))))))))))))))))))))))))))))
set_option maxRecDepth 20000 in
theorem ok_N_isFeature : mAll (mOk RX10 cX10_isFeature 1 true false (some .boolean) (mnat p_N_isFeature)) 0 k_N_isFeature := mA (i := 0) (ok_ild_n (f := 0) (pc := 0) rfl rfl rfl (by decide +kernel)) (
  mA (i := 1) (ok_i2l (pc := 1) rfl rfl (by decide +kernel)) (
  mA (i := 2) (ok_lc (n := 0) (pc := 2) (by decide +kernel) rfl rfl (by decide +kernel)) (
  mA (i := 3) (ok_ldc2 (pc := 3) wd_766 rfl rfl (by decide +kernel)) (
  mA (i := 4) (ok_callI (pc := 6) (can_S cal_N_within (by decide +kernel) wd_606 wd_604 wd_605 (by decide +kernel)) rfl rfl) (
  mA (i := 5) (ok_zret (pc := 9) rfl rfl (by decide +kernel)) (
  mZ))))))
set_option maxRecDepth 20000 in
theorem ok_N_laysValues : mAll (mOk RX10 cX10_laysValues 4 true false none (mnat p_N_laysValues)) 0 k_N_laysValues := mA (i := 0) (ok_ic (n := 0) (pc := 0) (by decide +kernel) rfl rfl (by decide +kernel)) (
  mA (i := 1) (ok_ist_n (f := 2) (pc := 1) rfl (by decide +kernel) rfl rfl rfl (by decide +kernel)) (
  mA (i := 2) (ok_ild_n (f := 2) (pc := 2) rfl rfl rfl (by decide +kernel)) (
  mA (i := 3) (ok_bi (n := 24) (pc := 3) (by decide +kernel) rfl rfl (by decide +kernel)) (
  mA (i := 4) (ok_cgt (off := 53) (pc := 5) (tgt := 58) rfl rfl rfl (by decide +kernel) (by decide +kernel)) (
  mA (i := 5) (ok_ic (n := 0) (pc := 8) (by decide +kernel) rfl rfl (by decide +kernel)) (
  mA (i := 6) (ok_ist_n (f := 3) (pc := 9) rfl (by decide +kernel) rfl rfl rfl (by decide +kernel)) (
  mA (i := 7) (ok_ild_n (f := 3) (pc := 10) rfl rfl rfl (by decide +kernel)) (
  mA (i := 8) (ok_bi (n := 40) (pc := 11) (by decide +kernel) rfl rfl (by decide +kernel)) (
  mA (i := 9) (ok_cge (off := 39) (pc := 13) (tgt := 52) rfl rfl rfl (by decide +kernel) (by decide +kernel)) (
  mA (i := 10) (ok_ald_n (f := 0) (pc := 16) rfl rfl rfl (by decide +kernel)) (
  mA (i := 11) (ok_gP (pc := 17) rfl (by decide +kernel) wd_589 inw_11 rfl rfl (by decide +kernel)) (
  mA (i := 12) (ok_bi (n := 40) (pc := 20) (by decide +kernel) rfl rfl (by decide +kernel)) (
  mA (i := 13) (ok_ild_n (f := 2) (pc := 22) rfl rfl rfl (by decide +kernel)) (
  mA (i := 14) (ok_mul (pc := 23) rfl rfl (by decide +kernel)) (
  mA (i := 15) (ok_ild_n (f := 3) (pc := 24) rfl rfl rfl (by decide +kernel)) (
  mA (i := 16) (ok_add (pc := 25) rfl rfl (by decide +kernel)) (
  mA (i := 17) (ok_ald_n (f := 0) (pc := 26) rfl rfl rfl (by decide +kernel)) (
  mA (i := 18) (ok_ild_n (f := 2) (pc := 27) rfl rfl rfl (by decide +kernel)) (
  mA (i := 19) (ok_callI (pc := 28) (can_V cal_N_isClause (by decide +kernel) rfl (by decide +kernel) rfl wd_607 wd_608 wd_609 wd_605 (by decide +kernel)) rfl rfl) (
  mA (i := 20) (ok_ifeq (off := 13) (pc := 31) (tgt := 44) rfl rfl rfl (by decide +kernel) (by decide +kernel)) (
  mA (i := 21) (ok_ald_n (f := 0) (pc := 34) rfl rfl rfl (by decide +kernel)) (
  mA (i := 22) (ok_ild_n (f := 2) (pc := 35) rfl rfl rfl (by decide +kernel)) (
  mA (i := 23) (ok_ild_n (f := 3) (pc := 36) rfl rfl rfl (by decide +kernel)) (
  mA (i := 24) (ok_ild_n (f := 1) (pc := 37) rfl rfl rfl (by decide +kernel)) (
  mA (i := 25) (ok_callI (pc := 38) (can_V cal_N_valueOf (by decide +kernel) rfl (by decide +kernel) rfl wd_767 wd_768 wd_769 wd_605 (by decide +kernel)) rfl rfl) (
  mA (i := 26) (ok_goto (off := 4) (pc := 41) (tgt := 45) rfl rfl (by decide +kernel) (by decide +kernel)) (
  mA (i := 27) (ok_ic (n := (-1)) (pc := 44) (by decide +kernel) rfl rfl (by decide +kernel)) (
  mA (i := 28) (ok_iast (pc := 45) rfl rfl (by decide +kernel)) (
  mA (i := 29) (ok_inc (z := 1) (pc := 46) (by decide +kernel) (by decide +kernel) rfl rfl rfl (by decide +kernel)) (
  mA (i := 30) (ok_goto (off := (-39)) (pc := 49) (tgt := 10) rfl rfl (by decide +kernel) (by decide +kernel)) (
  mA (i := 31) (ok_inc (z := 1) (pc := 52) (by decide +kernel) (by decide +kernel) rfl rfl rfl (by decide +kernel)) (
  mA (i := 32) (ok_goto (off := (-53)) (pc := 55) (tgt := 2) rfl rfl (by decide +kernel) (by decide +kernel)) (
  mA (i := 33) (ok_vret (pc := 58) rfl rfl (by decide +kernel)) (
  mZ))))))))))))))))))))))))))))))))))
set_option maxRecDepth 20000 in
theorem ok_N_powerNow : mAll (mOk RX10 cX10_powerNow 5 true false (some .int) (mnat p_N_powerNow)) 0 k_N_powerNow := mA (i := 0) (ok_ic (n := 0) (pc := 0) (by decide +kernel) rfl rfl (by decide +kernel)) (
  mA (i := 1) (ok_ist_n (f := 2) (pc := 1) rfl (by decide +kernel) rfl rfl rfl (by decide +kernel)) (
  mA (i := 2) (ok_ic (n := 0) (pc := 2) (by decide +kernel) rfl rfl (by decide +kernel)) (
  mA (i := 3) (ok_ist_n (f := 3) (pc := 3) rfl (by decide +kernel) rfl rfl rfl (by decide +kernel)) (
  mA (i := 4) (ok_ild_n (f := 3) (pc := 4) rfl rfl rfl (by decide +kernel)) (
  mA (i := 5) (ok_bi (n := 24) (pc := 5) (by decide +kernel) rfl rfl (by decide +kernel)) (
  mA (i := 6) (ok_cge (off := 75) (pc := 7) (tgt := 82) rfl rfl rfl (by decide +kernel) (by decide +kernel)) (
  mA (i := 7) (ok_ic (n := 0) (pc := 10) (by decide +kernel) rfl rfl (by decide +kernel)) (
  mA (i := 8) (ok_ist (pc := 11) (by decide +kernel) rfl rfl rfl (by decide +kernel)) (
  mA (i := 9) (ok_ild (pc := 13) rfl rfl (by decide +kernel)) (
  mA (i := 10) (ok_ild_n (f := 3) (pc := 15) rfl rfl rfl (by decide +kernel)) (
  mA (i := 11) (ok_cge (off := 60) (pc := 16) (tgt := 76) rfl rfl rfl (by decide +kernel) (by decide +kernel)) (
  mA (i := 12) (ok_ild_n (f := 2) (pc := 19) rfl rfl rfl (by decide +kernel)) (
  mA (i := 13) (ok_ald_n (f := 0) (pc := 20) rfl rfl rfl (by decide +kernel)) (
  mA (i := 14) (ok_ild_n (f := 3) (pc := 21) rfl rfl rfl (by decide +kernel)) (
  mA (i := 15) (ok_callI (pc := 22) (can_V cal_N_isKept (by decide +kernel) rfl (by decide +kernel) rfl wd_688 wd_689 wd_690 wd_605 (by decide +kernel)) rfl rfl) (
  mA (i := 16) (ok_ifeq (off := 42) (pc := 25) (tgt := 67) rfl rfl rfl (by decide +kernel) (by decide +kernel)) (
  mA (i := 17) (ok_ald_n (f := 0) (pc := 28) rfl rfl rfl (by decide +kernel)) (
  mA (i := 18) (ok_ild (pc := 29) rfl rfl (by decide +kernel)) (
  mA (i := 19) (ok_callI (pc := 31) (can_V cal_N_isKept (by decide +kernel) rfl (by decide +kernel) rfl wd_688 wd_689 wd_690 wd_605 (by decide +kernel)) rfl rfl) (
  mA (i := 20) (ok_ifeq (off := 33) (pc := 34) (tgt := 67) rfl rfl rfl (by decide +kernel) (by decide +kernel)) (
  mA (i := 21) (ok_ald_n (f := 0) (pc := 37) rfl rfl rfl (by decide +kernel)) (
  mA (i := 22) (ok_gP (pc := 38) rfl (by decide +kernel) wd_589 inw_11 rfl rfl (by decide +kernel)) (
  mA (i := 23) (ok_bi (n := 40) (pc := 41) (by decide +kernel) rfl rfl (by decide +kernel)) (
  mA (i := 24) (ok_ild_n (f := 3) (pc := 43) rfl rfl rfl (by decide +kernel)) (
  mA (i := 25) (ok_mul (pc := 44) rfl rfl (by decide +kernel)) (
  mA (i := 26) (ok_ild_n (f := 1) (pc := 45) rfl rfl rfl (by decide +kernel)) (
  mA (i := 27) (ok_add (pc := 46) rfl rfl (by decide +kernel)) (
  mA (i := 28) (ok_iald (pc := 47) rfl rfl (by decide +kernel)) (
  mA (i := 29) (ok_ald_n (f := 0) (pc := 48) rfl rfl rfl (by decide +kernel)) (
  mA (i := 30) (ok_gP (pc := 49) rfl (by decide +kernel) wd_589 inw_11 rfl rfl (by decide +kernel)) (
  mA (i := 31) (ok_bi (n := 40) (pc := 52) (by decide +kernel) rfl rfl (by decide +kernel)) (
  mA (i := 32) (ok_ild (pc := 54) rfl rfl (by decide +kernel)) (
  mA (i := 33) (ok_mul (pc := 56) rfl rfl (by decide +kernel)) (
  mA (i := 34) (ok_ild_n (f := 1) (pc := 57) rfl rfl rfl (by decide +kernel)) (
  mA (i := 35) (ok_add (pc := 58) rfl rfl (by decide +kernel)) (
  mA (i := 36) (ok_iald (pc := 59) rfl rfl (by decide +kernel)) (
  mA (i := 37) (ok_ceq (off := 7) (pc := 60) (tgt := 67) rfl rfl rfl (by decide +kernel) (by decide +kernel)) (
  mA (i := 38) (ok_ic (n := 1) (pc := 63) (by decide +kernel) rfl rfl (by decide +kernel)) (
  mA (i := 39) (ok_goto (off := 4) (pc := 64) (tgt := 68) rfl rfl (by decide +kernel) (by decide +kernel)) (
  mA (i := 40) (ok_ic (n := 0) (pc := 67) (by decide +kernel) rfl rfl (by decide +kernel)) (
  mA (i := 41) (ok_add (pc := 68) rfl rfl (by decide +kernel)) (
  mA (i := 42) (ok_ist_n (f := 2) (pc := 69) rfl (by decide +kernel) rfl rfl rfl (by decide +kernel)) (
  mA (i := 43) (ok_inc (z := 1) (pc := 70) (by decide +kernel) (by decide +kernel) rfl rfl rfl (by decide +kernel)) (
  mA (i := 44) (ok_goto (off := (-60)) (pc := 73) (tgt := 13) rfl rfl (by decide +kernel) (by decide +kernel)) (
  mA (i := 45) (ok_inc (z := 1) (pc := 76) (by decide +kernel) (by decide +kernel) rfl rfl rfl (by decide +kernel)) (
  mA (i := 46) (ok_goto (off := (-75)) (pc := 79) (tgt := 4) rfl rfl (by decide +kernel) (by decide +kernel)) (
  mA (i := 47) (ok_ild_n (f := 2) (pc := 82) rfl rfl rfl (by decide +kernel)) (
  mA (i := 48) (ok_iret (pc := 83) rfl rfl (by decide +kernel)) (
  mZ)))))))))))))))))))))))))))))))))))))))))))))))))
set_option maxRecDepth 20000 in
theorem ok_N_value : mAll (mOk RX10 cX10_value 4 true false (some .int) (mnat p_N_value)) 0 k_N_value := mA (i := 0) (ok_ald_n (f := 0) (pc := 0) rfl rfl rfl (by decide +kernel)) (
  mA (i := 1) (ok_ic (n := 0) (pc := 1) (by decide +kernel) rfl rfl (by decide +kernel)) (
  mA (i := 2) (ok_pI (pc := 2) rfl (by decide +kernel) wd_618 inw_11 tyX10_ok nmX10 rfl (by decide +kernel) rfl rfl (by decide +kernel)) (
  mA (i := 3) (ok_ald_n (f := 0) (pc := 5) rfl rfl rfl (by decide +kernel)) (
  mA (i := 4) (ok_ild_n (f := 1) (pc := 6) rfl rfl rfl (by decide +kernel)) (
  mA (i := 5) (ok_callI (pc := 7) (can_V cal_N_isClause (by decide +kernel) rfl (by decide +kernel) rfl wd_607 wd_608 wd_609 wd_605 (by decide +kernel)) rfl rfl) (
  mA (i := 6) (ok_ifeq (off := 27) (pc := 10) (tgt := 37) rfl rfl rfl (by decide +kernel) (by decide +kernel)) (
  mA (i := 7) (ok_ild_n (f := 2) (pc := 13) rfl rfl rfl (by decide +kernel)) (
  mA (i := 8) (ok_callI (pc := 14) (can_S cal_N_isFeature (by decide +kernel) wd_771 wd_770 wd_605 (by decide +kernel)) rfl rfl) (
  mA (i := 9) (ok_ifeq (off := 20) (pc := 17) (tgt := 37) rfl rfl rfl (by decide +kernel) (by decide +kernel)) (
  mA (i := 10) (ok_ild_n (f := 3) (pc := 20) rfl rfl rfl (by decide +kernel)) (
  mA (i := 11) (ok_callI (pc := 21) (can_S cal_N_isMode (by decide +kernel) wd_741 wd_740 wd_605 (by decide +kernel)) rfl rfl) (
  mA (i := 12) (ok_ifeq (off := 13) (pc := 24) (tgt := 37) rfl rfl rfl (by decide +kernel) (by decide +kernel)) (
  mA (i := 13) (ok_ald_n (f := 0) (pc := 27) rfl rfl rfl (by decide +kernel)) (
  mA (i := 14) (ok_ild_n (f := 1) (pc := 28) rfl rfl rfl (by decide +kernel)) (
  mA (i := 15) (ok_ild_n (f := 2) (pc := 29) rfl rfl rfl (by decide +kernel)) (
  mA (i := 16) (ok_ild_n (f := 3) (pc := 30) rfl rfl rfl (by decide +kernel)) (
  mA (i := 17) (ok_callI (pc := 31) (can_V cal_N_valueOf (by decide +kernel) rfl (by decide +kernel) rfl wd_767 wd_768 wd_769 wd_605 (by decide +kernel)) rfl rfl) (
  mA (i := 18) (ok_goto (off := 5) (pc := 34) (tgt := 39) rfl rfl (by decide +kernel) (by decide +kernel)) (
  mA (i := 19) (ok_bi (n := (-2)) (pc := 37) (by decide +kernel) rfl rfl (by decide +kernel)) (
  mA (i := 20) (ok_iret (pc := 39) rfl rfl (by decide +kernel)) (
  mZ)))))))))))))))))))))
set_option maxRecDepth 20000 in
theorem ok_N_power : mAll (mOk RX10 cX10_power 3 true false (some .int) (mnat p_N_power)) 0 k_N_power := mA (i := 0) (ok_ald_n (f := 0) (pc := 0) rfl rfl rfl (by decide +kernel)) (
  mA (i := 1) (ok_ic (n := 0) (pc := 1) (by decide +kernel) rfl rfl (by decide +kernel)) (
  mA (i := 2) (ok_pI (pc := 2) rfl (by decide +kernel) wd_618 inw_11 tyX10_ok nmX10 rfl (by decide +kernel) rfl rfl (by decide +kernel)) (
  mA (i := 3) (ok_ild_n (f := 1) (pc := 5) rfl rfl rfl (by decide +kernel)) (
  mA (i := 4) (ok_callI (pc := 6) (can_S cal_N_isFeature (by decide +kernel) wd_771 wd_770 wd_605 (by decide +kernel)) rfl rfl) (
  mA (i := 5) (ok_ifeq (off := 10) (pc := 9) (tgt := 19) rfl rfl rfl (by decide +kernel) (by decide +kernel)) (
  mA (i := 6) (ok_ild_n (f := 2) (pc := 12) rfl rfl rfl (by decide +kernel)) (
  mA (i := 7) (ok_callI (pc := 13) (can_S cal_N_isMode (by decide +kernel) wd_741 wd_740 wd_605 (by decide +kernel)) rfl rfl) (
  mA (i := 8) (ok_ifne (off := 6) (pc := 16) (tgt := 22) rfl rfl rfl (by decide +kernel) (by decide +kernel)) (
  mA (i := 9) (ok_bi (n := (-2)) (pc := 19) (by decide +kernel) rfl rfl (by decide +kernel)) (
  mA (i := 10) (ok_iret (pc := 21) rfl rfl (by decide +kernel)) (
  mA (i := 11) (ok_ald_n (f := 0) (pc := 22) rfl rfl rfl (by decide +kernel)) (
  mA (i := 12) (ok_ild_n (f := 2) (pc := 23) rfl rfl rfl (by decide +kernel)) (
  mA (i := 13) (ok_callV (pc := 24) (can_V cal_N_laysValues (by decide +kernel) rfl (by decide +kernel) rfl wd_772 wd_773 wd_774 wd_605 (by decide +kernel)) rfl rfl) (
  mA (i := 14) (ok_ald_n (f := 0) (pc := 27) rfl rfl rfl (by decide +kernel)) (
  mA (i := 15) (ok_ild_n (f := 1) (pc := 28) rfl rfl rfl (by decide +kernel)) (
  mA (i := 16) (ok_callI (pc := 29) (can_V cal_N_powerNow (by decide +kernel) rfl (by decide +kernel) rfl wd_775 wd_776 wd_777 wd_605 (by decide +kernel)) rfl rfl) (
  mA (i := 17) (ok_iret (pc := 32) rfl rfl (by decide +kernel)) (
  mZ))))))))))))))))))
set_option maxRecDepth 20000 in
theorem ok_N_choose_t120 : mAll (mOk RX10 cX10_choose 7 true false (some .int) (mnat p_N_choose)) 120 [o_ild 4, o_ald4 21, o_goto 124, o_ic (nI 0), o_iast, o_inc 4 (nI 1), o_goto 107, o_ald 0, o_callV 279 1 11, o_ald 0, o_gI 11 45, o_iret] := mA (i := 120) (ok_ild (pc := 226) rfl rfl (by decide +kernel)) (
  mA (i := 121) (ok_iald (pc := 228) rfl rfl (by decide +kernel)) (
  mA (i := 122) (ok_goto (off := 4) (pc := 229) (tgt := 233) rfl rfl (by decide +kernel) (by decide +kernel)) (
  mA (i := 123) (ok_ic (n := 0) (pc := 232) (by decide +kernel) rfl rfl (by decide +kernel)) (
  mA (i := 124) (ok_iast (pc := 233) rfl rfl (by decide +kernel)) (
  mA (i := 125) (ok_inc (z := 1) (pc := 234) (by decide +kernel) (by decide +kernel) rfl rfl rfl (by decide +kernel)) (
  mA (i := 126) (ok_goto (off := (-38)) (pc := 237) (tgt := 199) rfl rfl (by decide +kernel) (by decide +kernel)) (
  mA (i := 127) (ok_ald_n (f := 0) (pc := 240) rfl rfl rfl (by decide +kernel)) (
  mA (i := 128) (ok_callV (pc := 241) (can_V cal_N_laysTree (by decide +kernel) rfl (by decide +kernel) rfl wd_779 wd_780 wd_781 wd_605 (by decide +kernel)) rfl rfl) (
  mA (i := 129) (ok_ald_n (f := 0) (pc := 244) rfl rfl rfl (by decide +kernel)) (
  mA (i := 130) (ok_gI (pc := 245) rfl (by decide +kernel) wd_782 inw_11 rfl rfl (by decide +kernel)) (
  mA (i := 131) (ok_iret (pc := 248) rfl rfl (by decide +kernel)) (
  mZ))))))))))))
set_option maxRecDepth 20000 in
theorem ok_N_choose_t60 : mAll (mOk RX10 cX10_choose 7 true false (some .int) (mnat p_N_choose)) 60 [o_gP 11 34, o_ild 5, o_ald4 21, o_cle 66, o_ild 6, o_goto 67, o_ild 5, o_ist 5, o_inc 6 (nI 1), o_goto 52, o_ald 0, o_gP 11 34, o_ild 5, o_ic ((-1)), o_iast, o_ald 0, o_gP 11 35, o_ild 4, o_ild 5, o_iast, o_ild 3, o_ald 0, o_gP 11 1, o_ic (nI 801), o_ild 4, o_add, o_ald4 21, o_ild 5, o_ceq 91, o_ic (nI 1), o_goto 92, o_ic (nI 0), o_or, o_ist 3, o_inc 4 (nI 1), o_goto 45, o_ild 3, o_ifeq 100, o_ald 0, o_callV 229 1 11, o_ald 0, o_gP 11 1, o_ic (nI 800), o_ild 1, o_iast, o_ic (nI 0), o_ist 4, o_ild 4, o_ic (nI 8), o_cge 127, o_ald 0, o_gP 11 1, o_ic (nI 801), o_ild 4, o_add, o_ild 4, o_ild 1, o_cge 123, o_ald 0, o_gP 11 35, o_ild 4, o_ald4 21, o_goto 124, o_ic (nI 0), o_iast, o_inc 4 (nI 1), o_goto 107, o_ald 0, o_callV 279 1 11, o_ald 0, o_gI 11 45, o_iret] := mA (i := 60) (ok_gP (pc := 108) rfl (by decide +kernel) wd_590 inw_11 rfl rfl (by decide +kernel)) (
  mA (i := 61) (ok_ild (pc := 111) rfl rfl (by decide +kernel)) (
  mA (i := 62) (ok_iald (pc := 113) rfl rfl (by decide +kernel)) (
  mA (i := 63) (ok_cle (off := 8) (pc := 114) (tgt := 122) rfl rfl rfl (by decide +kernel) (by decide +kernel)) (
  mA (i := 64) (ok_ild (pc := 117) rfl rfl (by decide +kernel)) (
  mA (i := 65) (ok_goto (off := 5) (pc := 119) (tgt := 124) rfl rfl (by decide +kernel) (by decide +kernel)) (
  mA (i := 66) (ok_ild (pc := 122) rfl rfl (by decide +kernel)) (
  mA (i := 67) (ok_ist (pc := 124) (by decide +kernel) rfl rfl rfl (by decide +kernel)) (
  mA (i := 68) (ok_inc (z := 1) (pc := 126) (by decide +kernel) (by decide +kernel) rfl rfl rfl (by decide +kernel)) (
  mA (i := 69) (ok_goto (off := (-36)) (pc := 129) (tgt := 93) rfl rfl (by decide +kernel) (by decide +kernel)) (
  mA (i := 70) (ok_ald_n (f := 0) (pc := 132) rfl rfl rfl (by decide +kernel)) (
  mA (i := 71) (ok_gP (pc := 133) rfl (by decide +kernel) wd_590 inw_11 rfl rfl (by decide +kernel)) (
  mA (i := 72) (ok_ild (pc := 136) rfl rfl (by decide +kernel)) (
  mA (i := 73) (ok_ic (n := (-1)) (pc := 138) (by decide +kernel) rfl rfl (by decide +kernel)) (
  mA (i := 74) (ok_iast (pc := 139) rfl rfl (by decide +kernel)) (
  mA (i := 75) (ok_ald_n (f := 0) (pc := 140) rfl rfl rfl (by decide +kernel)) (
  mA (i := 76) (ok_gP (pc := 141) rfl (by decide +kernel) wd_591 inw_11 rfl rfl (by decide +kernel)) (
  mA (i := 77) (ok_ild (pc := 144) rfl rfl (by decide +kernel)) (
  mA (i := 78) (ok_ild (pc := 146) rfl rfl (by decide +kernel)) (
  mA (i := 79) (ok_iast (pc := 148) rfl rfl (by decide +kernel)) (
  mA (i := 80) (ok_ild_n (f := 3) (pc := 149) rfl rfl rfl (by decide +kernel)) (
  mA (i := 81) (ok_ald_n (f := 0) (pc := 150) rfl rfl rfl (by decide +kernel)) (
  mA (i := 82) (ok_gP (pc := 151) rfl (by decide +kernel) wd_575 inw_11 rfl rfl (by decide +kernel)) (
  mA (i := 83) (ok_si (n := 801) (pc := 154) (by decide +kernel) rfl rfl (by decide +kernel)) (
  mA (i := 84) (ok_ild (pc := 157) rfl rfl (by decide +kernel)) (
  mA (i := 85) (ok_add (pc := 159) rfl rfl (by decide +kernel)) (
  mA (i := 86) (ok_iald (pc := 160) rfl rfl (by decide +kernel)) (
  mA (i := 87) (ok_ild (pc := 161) rfl rfl (by decide +kernel)) (
  mA (i := 88) (ok_ceq (off := 7) (pc := 163) (tgt := 170) rfl rfl rfl (by decide +kernel) (by decide +kernel)) (
  mA (i := 89) (ok_ic (n := 1) (pc := 166) (by decide +kernel) rfl rfl (by decide +kernel)) (
  mA (i := 90) (ok_goto (off := 4) (pc := 167) (tgt := 171) rfl rfl (by decide +kernel) (by decide +kernel)) (
  mA (i := 91) (ok_ic (n := 0) (pc := 170) (by decide +kernel) rfl rfl (by decide +kernel)) (
  mA (i := 92) (ok_or (pc := 171) rfl rfl (by decide +kernel)) (
  mA (i := 93) (ok_ist_n (f := 3) (pc := 172) rfl (by decide +kernel) rfl rfl rfl (by decide +kernel)) (
  mA (i := 94) (ok_inc (z := 1) (pc := 173) (by decide +kernel) (by decide +kernel) rfl rfl rfl (by decide +kernel)) (
  mA (i := 95) (ok_goto (off := (-95)) (pc := 176) (tgt := 81) rfl rfl (by decide +kernel) (by decide +kernel)) (
  mA (i := 96) (ok_ild_n (f := 3) (pc := 179) rfl rfl rfl (by decide +kernel)) (
  mA (i := 97) (ok_ifeq (off := 7) (pc := 180) (tgt := 187) rfl rfl rfl (by decide +kernel) (by decide +kernel)) (
  mA (i := 98) (ok_ald_n (f := 0) (pc := 183) rfl rfl rfl (by decide +kernel)) (
  mA (i := 99) (ok_callV (pc := 184) (can_V cal_N_notes (by decide +kernel) rfl (by decide +kernel) rfl wd_665 wd_666 wd_667 wd_605 (by decide +kernel)) rfl rfl) (
  mA (i := 100) (ok_ald_n (f := 0) (pc := 187) rfl rfl rfl (by decide +kernel)) (
  mA (i := 101) (ok_gP (pc := 188) rfl (by decide +kernel) wd_575 inw_11 rfl rfl (by decide +kernel)) (
  mA (i := 102) (ok_si (n := 800) (pc := 191) (by decide +kernel) rfl rfl (by decide +kernel)) (
  mA (i := 103) (ok_ild_n (f := 1) (pc := 194) rfl rfl rfl (by decide +kernel)) (
  mA (i := 104) (ok_iast (pc := 195) rfl rfl (by decide +kernel)) (
  mA (i := 105) (ok_ic (n := 0) (pc := 196) (by decide +kernel) rfl rfl (by decide +kernel)) (
  mA (i := 106) (ok_ist (pc := 197) (by decide +kernel) rfl rfl rfl (by decide +kernel)) (
  mA (i := 107) (ok_ild (pc := 199) rfl rfl (by decide +kernel)) (
  mA (i := 108) (ok_bi (n := 8) (pc := 201) (by decide +kernel) rfl rfl (by decide +kernel)) (
  mA (i := 109) (ok_cge (off := 37) (pc := 203) (tgt := 240) rfl rfl rfl (by decide +kernel) (by decide +kernel)) (
  mA (i := 110) (ok_ald_n (f := 0) (pc := 206) rfl rfl rfl (by decide +kernel)) (
  mA (i := 111) (ok_gP (pc := 207) rfl (by decide +kernel) wd_575 inw_11 rfl rfl (by decide +kernel)) (
  mA (i := 112) (ok_si (n := 801) (pc := 210) (by decide +kernel) rfl rfl (by decide +kernel)) (
  mA (i := 113) (ok_ild (pc := 213) rfl rfl (by decide +kernel)) (
  mA (i := 114) (ok_add (pc := 215) rfl rfl (by decide +kernel)) (
  mA (i := 115) (ok_ild (pc := 216) rfl rfl (by decide +kernel)) (
  mA (i := 116) (ok_ild_n (f := 1) (pc := 218) rfl rfl rfl (by decide +kernel)) (
  mA (i := 117) (ok_cge (off := 13) (pc := 219) (tgt := 232) rfl rfl rfl (by decide +kernel) (by decide +kernel)) (
  mA (i := 118) (ok_ald_n (f := 0) (pc := 222) rfl rfl rfl (by decide +kernel)) (
  mA (i := 119) (ok_gP (pc := 223) rfl (by decide +kernel) wd_591 inw_11 rfl rfl (by decide +kernel)) (
  ok_N_choose_t120))))))))))))))))))))))))))))))))))))))))))))))))))))))))))))
set_option maxRecDepth 20000 in
theorem ok_N_choose : mAll (mOk RX10 cX10_choose 7 true false (some .int) (mnat p_N_choose)) 0 k_N_choose := mA (i := 0) (ok_ald_n (f := 0) (pc := 0) rfl rfl rfl (by decide +kernel)) (
  mA (i := 1) (ok_ic (n := 0) (pc := 1) (by decide +kernel) rfl rfl (by decide +kernel)) (
  mA (i := 2) (ok_pI (pc := 2) rfl (by decide +kernel) wd_618 inw_11 tyX10_ok nmX10 rfl (by decide +kernel) rfl rfl (by decide +kernel)) (
  mA (i := 3) (ok_ild_n (f := 2) (pc := 5) rfl rfl rfl (by decide +kernel)) (
  mA (i := 4) (ok_callI (pc := 6) (can_S cal_N_isMode (by decide +kernel) wd_741 wd_740 wd_605 (by decide +kernel)) rfl rfl) (
  mA (i := 5) (ok_ifne (off := 6) (pc := 9) (tgt := 15) rfl rfl rfl (by decide +kernel) (by decide +kernel)) (
  mA (i := 6) (ok_bi (n := (-2)) (pc := 12) (by decide +kernel) rfl rfl (by decide +kernel)) (
  mA (i := 7) (ok_iret (pc := 14) rfl rfl (by decide +kernel)) (
  mA (i := 8) (ok_ild_n (f := 1) (pc := 15) rfl rfl rfl (by decide +kernel)) (
  mA (i := 9) (ok_i2l (pc := 16) rfl rfl (by decide +kernel)) (
  mA (i := 10) (ok_lc (n := 0) (pc := 17) (by decide +kernel) rfl rfl (by decide +kernel)) (
  mA (i := 11) (ok_ldc2 (pc := 18) wd_778 rfl rfl (by decide +kernel)) (
  mA (i := 12) (ok_callI (pc := 21) (can_S cal_N_within (by decide +kernel) wd_606 wd_604 wd_605 (by decide +kernel)) rfl rfl) (
  mA (i := 13) (ok_ifne (off := 6) (pc := 24) (tgt := 30) rfl rfl rfl (by decide +kernel) (by decide +kernel)) (
  mA (i := 14) (ok_bi (n := (-3)) (pc := 27) (by decide +kernel) rfl rfl (by decide +kernel)) (
  mA (i := 15) (ok_iret (pc := 29) rfl rfl (by decide +kernel)) (
  mA (i := 16) (ok_ald_n (f := 0) (pc := 30) rfl rfl rfl (by decide +kernel)) (
  mA (i := 17) (ok_ild_n (f := 2) (pc := 31) rfl rfl rfl (by decide +kernel)) (
  mA (i := 18) (ok_callV (pc := 32) (can_V cal_N_laysValues (by decide +kernel) rfl (by decide +kernel) rfl wd_772 wd_773 wd_774 wd_605 (by decide +kernel)) rfl rfl) (
  mA (i := 19) (ok_ic (n := 0) (pc := 35) (by decide +kernel) rfl rfl (by decide +kernel)) (
  mA (i := 20) (ok_ist_n (f := 3) (pc := 36) rfl (by decide +kernel) rfl rfl rfl (by decide +kernel)) (
  mA (i := 21) (ok_ild_n (f := 3) (pc := 37) rfl rfl rfl (by decide +kernel)) (
  mA (i := 22) (ok_bi (n := 40) (pc := 38) (by decide +kernel) rfl rfl (by decide +kernel)) (
  mA (i := 23) (ok_cge (off := 20) (pc := 40) (tgt := 60) rfl rfl rfl (by decide +kernel) (by decide +kernel)) (
  mA (i := 24) (ok_ald_n (f := 0) (pc := 43) rfl rfl rfl (by decide +kernel)) (
  mA (i := 25) (ok_gP (pc := 44) rfl (by decide +kernel) wd_590 inw_11 rfl rfl (by decide +kernel)) (
  mA (i := 26) (ok_ild_n (f := 3) (pc := 47) rfl rfl rfl (by decide +kernel)) (
  mA (i := 27) (ok_ald_n (f := 0) (pc := 48) rfl rfl rfl (by decide +kernel)) (
  mA (i := 28) (ok_ild_n (f := 3) (pc := 49) rfl rfl rfl (by decide +kernel)) (
  mA (i := 29) (ok_callI (pc := 50) (can_V cal_N_powerNow (by decide +kernel) rfl (by decide +kernel) rfl wd_775 wd_776 wd_777 wd_605 (by decide +kernel)) rfl rfl) (
  mA (i := 30) (ok_iast (pc := 53) rfl rfl (by decide +kernel)) (
  mA (i := 31) (ok_inc (z := 1) (pc := 54) (by decide +kernel) (by decide +kernel) rfl rfl rfl (by decide +kernel)) (
  mA (i := 32) (ok_goto (off := (-20)) (pc := 57) (tgt := 37) rfl rfl (by decide +kernel) (by decide +kernel)) (
  mA (i := 33) (ok_ild_n (f := 1) (pc := 60) rfl rfl rfl (by decide +kernel)) (
  mA (i := 34) (ok_ald_n (f := 0) (pc := 61) rfl rfl rfl (by decide +kernel)) (
  mA (i := 35) (ok_gP (pc := 62) rfl (by decide +kernel) wd_575 inw_11 rfl rfl (by decide +kernel)) (
  mA (i := 36) (ok_si (n := 800) (pc := 65) (by decide +kernel) rfl rfl (by decide +kernel)) (
  mA (i := 37) (ok_iald (pc := 68) rfl rfl (by decide +kernel)) (
  mA (i := 38) (ok_ceq (off := 7) (pc := 69) (tgt := 76) rfl rfl rfl (by decide +kernel) (by decide +kernel)) (
  mA (i := 39) (ok_ic (n := 1) (pc := 72) (by decide +kernel) rfl rfl (by decide +kernel)) (
  mA (i := 40) (ok_goto (off := 4) (pc := 73) (tgt := 77) rfl rfl (by decide +kernel) (by decide +kernel)) (
  mA (i := 41) (ok_ic (n := 0) (pc := 76) (by decide +kernel) rfl rfl (by decide +kernel)) (
  mA (i := 42) (ok_ist_n (f := 3) (pc := 77) rfl (by decide +kernel) rfl rfl rfl (by decide +kernel)) (
  mA (i := 43) (ok_ic (n := 0) (pc := 78) (by decide +kernel) rfl rfl (by decide +kernel)) (
  mA (i := 44) (ok_ist (pc := 79) (by decide +kernel) rfl rfl rfl (by decide +kernel)) (
  mA (i := 45) (ok_ild (pc := 81) rfl rfl (by decide +kernel)) (
  mA (i := 46) (ok_ild_n (f := 1) (pc := 83) rfl rfl rfl (by decide +kernel)) (
  mA (i := 47) (ok_cge (off := 95) (pc := 84) (tgt := 179) rfl rfl rfl (by decide +kernel) (by decide +kernel)) (
  mA (i := 48) (ok_ic (n := 0) (pc := 87) (by decide +kernel) rfl rfl (by decide +kernel)) (
  mA (i := 49) (ok_ist (pc := 88) (by decide +kernel) rfl rfl rfl (by decide +kernel)) (
  mA (i := 50) (ok_ic (n := 1) (pc := 90) (by decide +kernel) rfl rfl (by decide +kernel)) (
  mA (i := 51) (ok_ist (pc := 91) (by decide +kernel) rfl rfl rfl (by decide +kernel)) (
  mA (i := 52) (ok_ild (pc := 93) rfl rfl (by decide +kernel)) (
  mA (i := 53) (ok_bi (n := 40) (pc := 95) (by decide +kernel) rfl rfl (by decide +kernel)) (
  mA (i := 54) (ok_cge (off := 35) (pc := 97) (tgt := 132) rfl rfl rfl (by decide +kernel) (by decide +kernel)) (
  mA (i := 55) (ok_ald_n (f := 0) (pc := 100) rfl rfl rfl (by decide +kernel)) (
  mA (i := 56) (ok_gP (pc := 101) rfl (by decide +kernel) wd_590 inw_11 rfl rfl (by decide +kernel)) (
  mA (i := 57) (ok_ild (pc := 104) rfl rfl (by decide +kernel)) (
  mA (i := 58) (ok_iald (pc := 106) rfl rfl (by decide +kernel)) (
  mA (i := 59) (ok_ald_n (f := 0) (pc := 107) rfl rfl rfl (by decide +kernel)) (
  ok_N_choose_t60))))))))))))))))))))))))))))))))))))))))))))))))))))))))))))
set_option maxRecDepth 20000 in
theorem ok_N_pairsWith_t60 : mAll (mOk RX10 cX10_pairsWith 8 true false (some .int) (mnat p_N_pairsWith)) 60 [o_gP 11 35, o_ild 7, o_ald4 21, o_add, o_ald4 21, o_ald 0, o_gP 11 33, o_ic (nI 40), o_ild 5, o_mul, o_ald 0, o_gP 11 35, o_ild 7, o_ald4 21, o_add, o_ald4 21, o_cgt 79, o_ic (nI 1), o_goto 80, o_ic (nI 0), o_and, o_ist 6, o_inc 7 (nI 1), o_goto 50, o_ild 3, o_ild 6, o_ifeq 89, o_ic (nI 1), o_goto 90, o_ic (nI 0), o_add, o_ist 3, o_inc 5 (nI 1), o_goto 9, o_inc 4 (nI 1), o_goto 4, o_ild 3, o_iret] := mA (i := 60) (ok_gP (pc := 110) rfl (by decide +kernel) wd_591 inw_11 rfl rfl (by decide +kernel)) (
  mA (i := 61) (ok_ild (pc := 113) rfl rfl (by decide +kernel)) (
  mA (i := 62) (ok_iald (pc := 115) rfl rfl (by decide +kernel)) (
  mA (i := 63) (ok_add (pc := 116) rfl rfl (by decide +kernel)) (
  mA (i := 64) (ok_iald (pc := 117) rfl rfl (by decide +kernel)) (
  mA (i := 65) (ok_ald_n (f := 0) (pc := 118) rfl rfl rfl (by decide +kernel)) (
  mA (i := 66) (ok_gP (pc := 119) rfl (by decide +kernel) wd_589 inw_11 rfl rfl (by decide +kernel)) (
  mA (i := 67) (ok_bi (n := 40) (pc := 122) (by decide +kernel) rfl rfl (by decide +kernel)) (
  mA (i := 68) (ok_ild (pc := 124) rfl rfl (by decide +kernel)) (
  mA (i := 69) (ok_mul (pc := 126) rfl rfl (by decide +kernel)) (
  mA (i := 70) (ok_ald_n (f := 0) (pc := 127) rfl rfl rfl (by decide +kernel)) (
  mA (i := 71) (ok_gP (pc := 128) rfl (by decide +kernel) wd_591 inw_11 rfl rfl (by decide +kernel)) (
  mA (i := 72) (ok_ild (pc := 131) rfl rfl (by decide +kernel)) (
  mA (i := 73) (ok_iald (pc := 133) rfl rfl (by decide +kernel)) (
  mA (i := 74) (ok_add (pc := 134) rfl rfl (by decide +kernel)) (
  mA (i := 75) (ok_iald (pc := 135) rfl rfl (by decide +kernel)) (
  mA (i := 76) (ok_cgt (off := 7) (pc := 136) (tgt := 143) rfl rfl rfl (by decide +kernel) (by decide +kernel)) (
  mA (i := 77) (ok_ic (n := 1) (pc := 139) (by decide +kernel) rfl rfl (by decide +kernel)) (
  mA (i := 78) (ok_goto (off := 4) (pc := 140) (tgt := 144) rfl rfl (by decide +kernel) (by decide +kernel)) (
  mA (i := 79) (ok_ic (n := 0) (pc := 143) (by decide +kernel) rfl rfl (by decide +kernel)) (
  mA (i := 80) (ok_and (pc := 144) rfl rfl (by decide +kernel)) (
  mA (i := 81) (ok_ist (pc := 145) (by decide +kernel) rfl rfl rfl (by decide +kernel)) (
  mA (i := 82) (ok_inc (z := 1) (pc := 147) (by decide +kernel) (by decide +kernel) rfl rfl rfl (by decide +kernel)) (
  mA (i := 83) (ok_goto (off := (-58)) (pc := 150) (tgt := 92) rfl rfl (by decide +kernel) (by decide +kernel)) (
  mA (i := 84) (ok_ild_n (f := 3) (pc := 153) rfl rfl rfl (by decide +kernel)) (
  mA (i := 85) (ok_ild (pc := 154) rfl rfl (by decide +kernel)) (
  mA (i := 86) (ok_ifeq (off := 7) (pc := 156) (tgt := 163) rfl rfl rfl (by decide +kernel) (by decide +kernel)) (
  mA (i := 87) (ok_ic (n := 1) (pc := 159) (by decide +kernel) rfl rfl (by decide +kernel)) (
  mA (i := 88) (ok_goto (off := 4) (pc := 160) (tgt := 164) rfl rfl (by decide +kernel) (by decide +kernel)) (
  mA (i := 89) (ok_ic (n := 0) (pc := 163) (by decide +kernel) rfl rfl (by decide +kernel)) (
  mA (i := 90) (ok_add (pc := 164) rfl rfl (by decide +kernel)) (
  mA (i := 91) (ok_ist_n (f := 3) (pc := 165) rfl (by decide +kernel) rfl rfl rfl (by decide +kernel)) (
  mA (i := 92) (ok_inc (z := 1) (pc := 166) (by decide +kernel) (by decide +kernel) rfl rfl rfl (by decide +kernel)) (
  mA (i := 93) (ok_goto (off := (-154)) (pc := 169) (tgt := 15) rfl rfl (by decide +kernel) (by decide +kernel)) (
  mA (i := 94) (ok_inc (z := 1) (pc := 172) (by decide +kernel) (by decide +kernel) rfl rfl rfl (by decide +kernel)) (
  mA (i := 95) (ok_goto (off := (-170)) (pc := 175) (tgt := 5) rfl rfl (by decide +kernel) (by decide +kernel)) (
  mA (i := 96) (ok_ild_n (f := 3) (pc := 178) rfl rfl rfl (by decide +kernel)) (
  mA (i := 97) (ok_iret (pc := 179) rfl rfl (by decide +kernel)) (
  mZ))))))))))))))))))))))))))))))))))))))
set_option maxRecDepth 20000 in
theorem ok_N_pairsWith : mAll (mOk RX10 cX10_pairsWith 8 true false (some .int) (mnat p_N_pairsWith)) 0 k_N_pairsWith := mA (i := 0) (ok_ic (n := 0) (pc := 0) (by decide +kernel) rfl rfl (by decide +kernel)) (
  mA (i := 1) (ok_ist_n (f := 3) (pc := 1) rfl (by decide +kernel) rfl rfl rfl (by decide +kernel)) (
  mA (i := 2) (ok_ic (n := 0) (pc := 2) (by decide +kernel) rfl rfl (by decide +kernel)) (
  mA (i := 3) (ok_ist (pc := 3) (by decide +kernel) rfl rfl rfl (by decide +kernel)) (
  mA (i := 4) (ok_ild (pc := 5) rfl rfl (by decide +kernel)) (
  mA (i := 5) (ok_bi (n := 24) (pc := 7) (by decide +kernel) rfl rfl (by decide +kernel)) (
  mA (i := 6) (ok_cge (off := 169) (pc := 9) (tgt := 178) rfl rfl rfl (by decide +kernel) (by decide +kernel)) (
  mA (i := 7) (ok_ic (n := 0) (pc := 12) (by decide +kernel) rfl rfl (by decide +kernel)) (
  mA (i := 8) (ok_ist (pc := 13) (by decide +kernel) rfl rfl rfl (by decide +kernel)) (
  mA (i := 9) (ok_ild (pc := 15) rfl rfl (by decide +kernel)) (
  mA (i := 10) (ok_bi (n := 24) (pc := 17) (by decide +kernel) rfl rfl (by decide +kernel)) (
  mA (i := 11) (ok_cge (off := 153) (pc := 19) (tgt := 172) rfl rfl rfl (by decide +kernel) (by decide +kernel)) (
  mA (i := 12) (ok_ild (pc := 22) rfl rfl (by decide +kernel)) (
  mA (i := 13) (ok_ild (pc := 24) rfl rfl (by decide +kernel)) (
  mA (i := 14) (ok_ceq (off := 140) (pc := 26) (tgt := 166) rfl rfl rfl (by decide +kernel) (by decide +kernel)) (
  mA (i := 15) (ok_ald_n (f := 0) (pc := 29) rfl rfl rfl (by decide +kernel)) (
  mA (i := 16) (ok_ild (pc := 30) rfl rfl (by decide +kernel)) (
  mA (i := 17) (ok_callI (pc := 32) (can_V cal_N_isKept (by decide +kernel) rfl (by decide +kernel) rfl wd_688 wd_689 wd_690 wd_605 (by decide +kernel)) rfl rfl) (
  mA (i := 18) (ok_ifeq (off := 131) (pc := 35) (tgt := 166) rfl rfl rfl (by decide +kernel) (by decide +kernel)) (
  mA (i := 19) (ok_ald_n (f := 0) (pc := 38) rfl rfl rfl (by decide +kernel)) (
  mA (i := 20) (ok_ild (pc := 39) rfl rfl (by decide +kernel)) (
  mA (i := 21) (ok_callI (pc := 41) (can_V cal_N_isKept (by decide +kernel) rfl (by decide +kernel) rfl wd_688 wd_689 wd_690 wd_605 (by decide +kernel)) rfl rfl) (
  mA (i := 22) (ok_ifne (off := 6) (pc := 44) (tgt := 50) rfl rfl rfl (by decide +kernel) (by decide +kernel)) (
  mA (i := 23) (ok_goto (off := 119) (pc := 47) (tgt := 166) rfl rfl (by decide +kernel) (by decide +kernel)) (
  mA (i := 24) (ok_ild_n (f := 2) (pc := 50) rfl rfl rfl (by decide +kernel)) (
  mA (i := 25) (ok_ic (n := (-1)) (pc := 51) (by decide +kernel) rfl rfl (by decide +kernel)) (
  mA (i := 26) (ok_ceq (off := 30) (pc := 52) (tgt := 82) rfl rfl rfl (by decide +kernel) (by decide +kernel)) (
  mA (i := 27) (ok_ald_n (f := 0) (pc := 55) rfl rfl rfl (by decide +kernel)) (
  mA (i := 28) (ok_gP (pc := 56) rfl (by decide +kernel) wd_589 inw_11 rfl rfl (by decide +kernel)) (
  mA (i := 29) (ok_bi (n := 40) (pc := 59) (by decide +kernel) rfl rfl (by decide +kernel)) (
  mA (i := 30) (ok_ild (pc := 61) rfl rfl (by decide +kernel)) (
  mA (i := 31) (ok_mul (pc := 63) rfl rfl (by decide +kernel)) (
  mA (i := 32) (ok_ild_n (f := 2) (pc := 64) rfl rfl rfl (by decide +kernel)) (
  mA (i := 33) (ok_add (pc := 65) rfl rfl (by decide +kernel)) (
  mA (i := 34) (ok_iald (pc := 66) rfl rfl (by decide +kernel)) (
  mA (i := 35) (ok_ald_n (f := 0) (pc := 67) rfl rfl rfl (by decide +kernel)) (
  mA (i := 36) (ok_gP (pc := 68) rfl (by decide +kernel) wd_589 inw_11 rfl rfl (by decide +kernel)) (
  mA (i := 37) (ok_bi (n := 40) (pc := 71) (by decide +kernel) rfl rfl (by decide +kernel)) (
  mA (i := 38) (ok_ild (pc := 73) rfl rfl (by decide +kernel)) (
  mA (i := 39) (ok_mul (pc := 75) rfl rfl (by decide +kernel)) (
  mA (i := 40) (ok_ild_n (f := 2) (pc := 76) rfl rfl rfl (by decide +kernel)) (
  mA (i := 41) (ok_add (pc := 77) rfl rfl (by decide +kernel)) (
  mA (i := 42) (ok_iald (pc := 78) rfl rfl (by decide +kernel)) (
  mA (i := 43) (ok_cgt (off := 7) (pc := 79) (tgt := 86) rfl rfl rfl (by decide +kernel) (by decide +kernel)) (
  mA (i := 44) (ok_ic (n := 1) (pc := 82) (by decide +kernel) rfl rfl (by decide +kernel)) (
  mA (i := 45) (ok_goto (off := 4) (pc := 83) (tgt := 87) rfl rfl (by decide +kernel) (by decide +kernel)) (
  mA (i := 46) (ok_ic (n := 0) (pc := 86) (by decide +kernel) rfl rfl (by decide +kernel)) (
  mA (i := 47) (ok_ist (pc := 87) (by decide +kernel) rfl rfl rfl (by decide +kernel)) (
  mA (i := 48) (ok_ic (n := 0) (pc := 89) (by decide +kernel) rfl rfl (by decide +kernel)) (
  mA (i := 49) (ok_ist (pc := 90) (by decide +kernel) rfl rfl rfl (by decide +kernel)) (
  mA (i := 50) (ok_ild (pc := 92) rfl rfl (by decide +kernel)) (
  mA (i := 51) (ok_ild_n (f := 1) (pc := 94) rfl rfl rfl (by decide +kernel)) (
  mA (i := 52) (ok_cge (off := 58) (pc := 95) (tgt := 153) rfl rfl rfl (by decide +kernel) (by decide +kernel)) (
  mA (i := 53) (ok_ild (pc := 98) rfl rfl (by decide +kernel)) (
  mA (i := 54) (ok_ald_n (f := 0) (pc := 100) rfl rfl rfl (by decide +kernel)) (
  mA (i := 55) (ok_gP (pc := 101) rfl (by decide +kernel) wd_589 inw_11 rfl rfl (by decide +kernel)) (
  mA (i := 56) (ok_bi (n := 40) (pc := 104) (by decide +kernel) rfl rfl (by decide +kernel)) (
  mA (i := 57) (ok_ild (pc := 106) rfl rfl (by decide +kernel)) (
  mA (i := 58) (ok_mul (pc := 108) rfl rfl (by decide +kernel)) (
  mA (i := 59) (ok_ald_n (f := 0) (pc := 109) rfl rfl rfl (by decide +kernel)) (
  ok_N_pairsWith_t60))))))))))))))))))))))))))))))))))))))))))))))))))))))))))))
set_option maxRecDepth 20000 in
theorem ok_N_isChosen : mAll (mOk RX10 cX10_isChosen 4 true false (some .boolean) (mnat p_N_isChosen)) 0 k_N_isChosen := mA (i := 0) (ok_ic (n := 0) (pc := 0) (by decide +kernel) rfl rfl (by decide +kernel)) (
  mA (i := 1) (ok_ist_n (f := 3) (pc := 1) rfl (by decide +kernel) rfl rfl rfl (by decide +kernel)) (
  mA (i := 2) (ok_ild_n (f := 3) (pc := 2) rfl rfl rfl (by decide +kernel)) (
  mA (i := 3) (ok_ild_n (f := 1) (pc := 3) rfl rfl rfl (by decide +kernel)) (
  mA (i := 4) (ok_cge (off := 21) (pc := 4) (tgt := 25) rfl rfl rfl (by decide +kernel) (by decide +kernel)) (
  mA (i := 5) (ok_ald_n (f := 0) (pc := 7) rfl rfl rfl (by decide +kernel)) (
  mA (i := 6) (ok_gP (pc := 8) rfl (by decide +kernel) wd_591 inw_11 rfl rfl (by decide +kernel)) (
  mA (i := 7) (ok_ild_n (f := 3) (pc := 11) rfl rfl rfl (by decide +kernel)) (
  mA (i := 8) (ok_iald (pc := 12) rfl rfl (by decide +kernel)) (
  mA (i := 9) (ok_ild_n (f := 2) (pc := 13) rfl rfl rfl (by decide +kernel)) (
  mA (i := 10) (ok_cne (off := 5) (pc := 14) (tgt := 19) rfl rfl rfl (by decide +kernel) (by decide +kernel)) (
  mA (i := 11) (ok_ic (n := 1) (pc := 17) (by decide +kernel) rfl rfl (by decide +kernel)) (
  mA (i := 12) (ok_zret (pc := 18) rfl rfl (by decide +kernel)) (
  mA (i := 13) (ok_inc (z := 1) (pc := 19) (by decide +kernel) (by decide +kernel) rfl rfl rfl (by decide +kernel)) (
  mA (i := 14) (ok_goto (off := (-20)) (pc := 22) (tgt := 2) rfl rfl (by decide +kernel) (by decide +kernel)) (
  mA (i := 15) (ok_ic (n := 0) (pc := 25) (by decide +kernel) rfl rfl (by decide +kernel)) (
  mA (i := 16) (ok_zret (pc := 26) rfl rfl (by decide +kernel)) (
  mZ)))))))))))))))))
set_option maxRecDepth 20000 in
theorem ok_N_greedy_t120 : mAll (mOk RX10 cX10_greedy 8 true false (some .int) (mnat p_N_greedy)) 120 [o_iret] := mA (i := 120) (ok_iret (pc := 233) rfl rfl (by decide +kernel)) (
  mZ)
set_option maxRecDepth 20000 in
theorem ok_N_greedy_t60 : mAll (mOk RX10 cX10_greedy 8 true false (some .int) (mnat p_N_greedy)) 60 [o_callI 270 3 11, o_ist 6, o_inc 7 (nI 1), o_goto 40, o_ald 0, o_gP 11 35, o_ild 4, o_ild 5, o_iast, o_ild 3, o_ald 0, o_gP 11 1, o_ic (nI 801), o_ild 4, o_add, o_ald4 21, o_ild 5, o_ceq 80, o_ic (nI 1), o_goto 81, o_ic (nI 0), o_or, o_ist 3, o_inc 4 (nI 1), o_goto 31, o_ild 3, o_ifeq 89, o_ald 0, o_callV 229 1 11, o_ald 0, o_gP 11 1, o_ic (nI 800), o_ild 1, o_iast, o_ic (nI 0), o_ist 4, o_ild 4, o_ic (nI 8), o_cge 116, o_ald 0, o_gP 11 1, o_ic (nI 801), o_ild 4, o_add, o_ild 4, o_ild 1, o_cge 112, o_ald 0, o_gP 11 35, o_ild 4, o_ald4 21, o_goto 113, o_ic (nI 0), o_iast, o_inc 4 (nI 1), o_goto 96, o_ald 0, o_ild 1, o_ic ((-1)), o_callI 270 3 11, o_iret] := mA (i := 60) (ok_callI (pc := 116) (can_V cal_N_pairsWith (by decide +kernel) rfl (by decide +kernel) rfl wd_786 wd_787 wd_788 wd_605 (by decide +kernel)) rfl rfl) (
  mA (i := 61) (ok_ist (pc := 119) (by decide +kernel) rfl rfl rfl (by decide +kernel)) (
  mA (i := 62) (ok_inc (z := 1) (pc := 121) (by decide +kernel) (by decide +kernel) rfl rfl rfl (by decide +kernel)) (
  mA (i := 63) (ok_goto (off := (-51)) (pc := 124) (tgt := 73) rfl rfl (by decide +kernel) (by decide +kernel)) (
  mA (i := 64) (ok_ald_n (f := 0) (pc := 127) rfl rfl rfl (by decide +kernel)) (
  mA (i := 65) (ok_gP (pc := 128) rfl (by decide +kernel) wd_591 inw_11 rfl rfl (by decide +kernel)) (
  mA (i := 66) (ok_ild (pc := 131) rfl rfl (by decide +kernel)) (
  mA (i := 67) (ok_ild (pc := 133) rfl rfl (by decide +kernel)) (
  mA (i := 68) (ok_iast (pc := 135) rfl rfl (by decide +kernel)) (
  mA (i := 69) (ok_ild_n (f := 3) (pc := 136) rfl rfl rfl (by decide +kernel)) (
  mA (i := 70) (ok_ald_n (f := 0) (pc := 137) rfl rfl rfl (by decide +kernel)) (
  mA (i := 71) (ok_gP (pc := 138) rfl (by decide +kernel) wd_575 inw_11 rfl rfl (by decide +kernel)) (
  mA (i := 72) (ok_si (n := 801) (pc := 141) (by decide +kernel) rfl rfl (by decide +kernel)) (
  mA (i := 73) (ok_ild (pc := 144) rfl rfl (by decide +kernel)) (
  mA (i := 74) (ok_add (pc := 146) rfl rfl (by decide +kernel)) (
  mA (i := 75) (ok_iald (pc := 147) rfl rfl (by decide +kernel)) (
  mA (i := 76) (ok_ild (pc := 148) rfl rfl (by decide +kernel)) (
  mA (i := 77) (ok_ceq (off := 7) (pc := 150) (tgt := 157) rfl rfl rfl (by decide +kernel) (by decide +kernel)) (
  mA (i := 78) (ok_ic (n := 1) (pc := 153) (by decide +kernel) rfl rfl (by decide +kernel)) (
  mA (i := 79) (ok_goto (off := 4) (pc := 154) (tgt := 158) rfl rfl (by decide +kernel) (by decide +kernel)) (
  mA (i := 80) (ok_ic (n := 0) (pc := 157) (by decide +kernel) rfl rfl (by decide +kernel)) (
  mA (i := 81) (ok_or (pc := 158) rfl rfl (by decide +kernel)) (
  mA (i := 82) (ok_ist_n (f := 3) (pc := 159) rfl (by decide +kernel) rfl rfl rfl (by decide +kernel)) (
  mA (i := 83) (ok_inc (z := 1) (pc := 160) (by decide +kernel) (by decide +kernel) rfl rfl rfl (by decide +kernel)) (
  mA (i := 84) (ok_goto (off := (-107)) (pc := 163) (tgt := 56) rfl rfl (by decide +kernel) (by decide +kernel)) (
  mA (i := 85) (ok_ild_n (f := 3) (pc := 166) rfl rfl rfl (by decide +kernel)) (
  mA (i := 86) (ok_ifeq (off := 7) (pc := 167) (tgt := 174) rfl rfl rfl (by decide +kernel) (by decide +kernel)) (
  mA (i := 87) (ok_ald_n (f := 0) (pc := 170) rfl rfl rfl (by decide +kernel)) (
  mA (i := 88) (ok_callV (pc := 171) (can_V cal_N_notes (by decide +kernel) rfl (by decide +kernel) rfl wd_665 wd_666 wd_667 wd_605 (by decide +kernel)) rfl rfl) (
  mA (i := 89) (ok_ald_n (f := 0) (pc := 174) rfl rfl rfl (by decide +kernel)) (
  mA (i := 90) (ok_gP (pc := 175) rfl (by decide +kernel) wd_575 inw_11 rfl rfl (by decide +kernel)) (
  mA (i := 91) (ok_si (n := 800) (pc := 178) (by decide +kernel) rfl rfl (by decide +kernel)) (
  mA (i := 92) (ok_ild_n (f := 1) (pc := 181) rfl rfl rfl (by decide +kernel)) (
  mA (i := 93) (ok_iast (pc := 182) rfl rfl (by decide +kernel)) (
  mA (i := 94) (ok_ic (n := 0) (pc := 183) (by decide +kernel) rfl rfl (by decide +kernel)) (
  mA (i := 95) (ok_ist (pc := 184) (by decide +kernel) rfl rfl rfl (by decide +kernel)) (
  mA (i := 96) (ok_ild (pc := 186) rfl rfl (by decide +kernel)) (
  mA (i := 97) (ok_bi (n := 8) (pc := 188) (by decide +kernel) rfl rfl (by decide +kernel)) (
  mA (i := 98) (ok_cge (off := 37) (pc := 190) (tgt := 227) rfl rfl rfl (by decide +kernel) (by decide +kernel)) (
  mA (i := 99) (ok_ald_n (f := 0) (pc := 193) rfl rfl rfl (by decide +kernel)) (
  mA (i := 100) (ok_gP (pc := 194) rfl (by decide +kernel) wd_575 inw_11 rfl rfl (by decide +kernel)) (
  mA (i := 101) (ok_si (n := 801) (pc := 197) (by decide +kernel) rfl rfl (by decide +kernel)) (
  mA (i := 102) (ok_ild (pc := 200) rfl rfl (by decide +kernel)) (
  mA (i := 103) (ok_add (pc := 202) rfl rfl (by decide +kernel)) (
  mA (i := 104) (ok_ild (pc := 203) rfl rfl (by decide +kernel)) (
  mA (i := 105) (ok_ild_n (f := 1) (pc := 205) rfl rfl rfl (by decide +kernel)) (
  mA (i := 106) (ok_cge (off := 13) (pc := 206) (tgt := 219) rfl rfl rfl (by decide +kernel) (by decide +kernel)) (
  mA (i := 107) (ok_ald_n (f := 0) (pc := 209) rfl rfl rfl (by decide +kernel)) (
  mA (i := 108) (ok_gP (pc := 210) rfl (by decide +kernel) wd_591 inw_11 rfl rfl (by decide +kernel)) (
  mA (i := 109) (ok_ild (pc := 213) rfl rfl (by decide +kernel)) (
  mA (i := 110) (ok_iald (pc := 215) rfl rfl (by decide +kernel)) (
  mA (i := 111) (ok_goto (off := 4) (pc := 216) (tgt := 220) rfl rfl (by decide +kernel) (by decide +kernel)) (
  mA (i := 112) (ok_ic (n := 0) (pc := 219) (by decide +kernel) rfl rfl (by decide +kernel)) (
  mA (i := 113) (ok_iast (pc := 220) rfl rfl (by decide +kernel)) (
  mA (i := 114) (ok_inc (z := 1) (pc := 221) (by decide +kernel) (by decide +kernel) rfl rfl rfl (by decide +kernel)) (
  mA (i := 115) (ok_goto (off := (-38)) (pc := 224) (tgt := 186) rfl rfl (by decide +kernel) (by decide +kernel)) (
  mA (i := 116) (ok_ald_n (f := 0) (pc := 227) rfl rfl rfl (by decide +kernel)) (
  mA (i := 117) (ok_ild_n (f := 1) (pc := 228) rfl rfl rfl (by decide +kernel)) (
  mA (i := 118) (ok_ic (n := (-1)) (pc := 229) (by decide +kernel) rfl rfl (by decide +kernel)) (
  mA (i := 119) (ok_callI (pc := 230) (can_V cal_N_pairsWith (by decide +kernel) rfl (by decide +kernel) rfl wd_786 wd_787 wd_788 wd_605 (by decide +kernel)) rfl rfl) (
  ok_N_greedy_t120))))))))))))))))))))))))))))))))))))))))))))))))))))))))))))
set_option maxRecDepth 20000 in
theorem ok_N_greedy : mAll (mOk RX10 cX10_greedy 8 true false (some .int) (mnat p_N_greedy)) 0 k_N_greedy := mA (i := 0) (ok_ald_n (f := 0) (pc := 0) rfl rfl rfl (by decide +kernel)) (
  mA (i := 1) (ok_ic (n := 0) (pc := 1) (by decide +kernel) rfl rfl (by decide +kernel)) (
  mA (i := 2) (ok_pI (pc := 2) rfl (by decide +kernel) wd_618 inw_11 tyX10_ok nmX10 rfl (by decide +kernel) rfl rfl (by decide +kernel)) (
  mA (i := 3) (ok_ild_n (f := 2) (pc := 5) rfl rfl rfl (by decide +kernel)) (
  mA (i := 4) (ok_callI (pc := 6) (can_S cal_N_isMode (by decide +kernel) wd_741 wd_740 wd_605 (by decide +kernel)) rfl rfl) (
  mA (i := 5) (ok_ifne (off := 6) (pc := 9) (tgt := 15) rfl rfl rfl (by decide +kernel) (by decide +kernel)) (
  mA (i := 6) (ok_bi (n := (-2)) (pc := 12) (by decide +kernel) rfl rfl (by decide +kernel)) (
  mA (i := 7) (ok_iret (pc := 14) rfl rfl (by decide +kernel)) (
  mA (i := 8) (ok_ild_n (f := 1) (pc := 15) rfl rfl rfl (by decide +kernel)) (
  mA (i := 9) (ok_i2l (pc := 16) rfl rfl (by decide +kernel)) (
  mA (i := 10) (ok_lc (n := 0) (pc := 17) (by decide +kernel) rfl rfl (by decide +kernel)) (
  mA (i := 11) (ok_ldc2 (pc := 18) wd_778 rfl rfl (by decide +kernel)) (
  mA (i := 12) (ok_callI (pc := 21) (can_S cal_N_within (by decide +kernel) wd_606 wd_604 wd_605 (by decide +kernel)) rfl rfl) (
  mA (i := 13) (ok_ifne (off := 6) (pc := 24) (tgt := 30) rfl rfl rfl (by decide +kernel) (by decide +kernel)) (
  mA (i := 14) (ok_bi (n := (-3)) (pc := 27) (by decide +kernel) rfl rfl (by decide +kernel)) (
  mA (i := 15) (ok_iret (pc := 29) rfl rfl (by decide +kernel)) (
  mA (i := 16) (ok_ald_n (f := 0) (pc := 30) rfl rfl rfl (by decide +kernel)) (
  mA (i := 17) (ok_ild_n (f := 2) (pc := 31) rfl rfl rfl (by decide +kernel)) (
  mA (i := 18) (ok_callV (pc := 32) (can_V cal_N_laysValues (by decide +kernel) rfl (by decide +kernel) rfl wd_772 wd_773 wd_774 wd_605 (by decide +kernel)) rfl rfl) (
  mA (i := 19) (ok_ild_n (f := 1) (pc := 35) rfl rfl rfl (by decide +kernel)) (
  mA (i := 20) (ok_ald_n (f := 0) (pc := 36) rfl rfl rfl (by decide +kernel)) (
  mA (i := 21) (ok_gP (pc := 37) rfl (by decide +kernel) wd_575 inw_11 rfl rfl (by decide +kernel)) (
  mA (i := 22) (ok_si (n := 800) (pc := 40) (by decide +kernel) rfl rfl (by decide +kernel)) (
  mA (i := 23) (ok_iald (pc := 43) rfl rfl (by decide +kernel)) (
  mA (i := 24) (ok_ceq (off := 7) (pc := 44) (tgt := 51) rfl rfl rfl (by decide +kernel) (by decide +kernel)) (
  mA (i := 25) (ok_ic (n := 1) (pc := 47) (by decide +kernel) rfl rfl (by decide +kernel)) (
  mA (i := 26) (ok_goto (off := 4) (pc := 48) (tgt := 52) rfl rfl (by decide +kernel) (by decide +kernel)) (
  mA (i := 27) (ok_ic (n := 0) (pc := 51) (by decide +kernel) rfl rfl (by decide +kernel)) (
  mA (i := 28) (ok_ist_n (f := 3) (pc := 52) rfl (by decide +kernel) rfl rfl rfl (by decide +kernel)) (
  mA (i := 29) (ok_ic (n := 0) (pc := 53) (by decide +kernel) rfl rfl (by decide +kernel)) (
  mA (i := 30) (ok_ist (pc := 54) (by decide +kernel) rfl rfl rfl (by decide +kernel)) (
  mA (i := 31) (ok_ild (pc := 56) rfl rfl (by decide +kernel)) (
  mA (i := 32) (ok_ild_n (f := 1) (pc := 58) rfl rfl rfl (by decide +kernel)) (
  mA (i := 33) (ok_cge (off := 107) (pc := 59) (tgt := 166) rfl rfl rfl (by decide +kernel) (by decide +kernel)) (
  mA (i := 34) (ok_ic (n := (-1)) (pc := 62) (by decide +kernel) rfl rfl (by decide +kernel)) (
  mA (i := 35) (ok_ist (pc := 63) (by decide +kernel) rfl rfl rfl (by decide +kernel)) (
  mA (i := 36) (ok_ldcw (pc := 65) wd_739 rfl rfl (by decide +kernel)) (
  mA (i := 37) (ok_ist (pc := 68) (by decide +kernel) rfl rfl rfl (by decide +kernel)) (
  mA (i := 38) (ok_ic (n := 0) (pc := 70) (by decide +kernel) rfl rfl (by decide +kernel)) (
  mA (i := 39) (ok_ist (pc := 71) (by decide +kernel) rfl rfl rfl (by decide +kernel)) (
  mA (i := 40) (ok_ild (pc := 73) rfl rfl (by decide +kernel)) (
  mA (i := 41) (ok_bi (n := 40) (pc := 75) (by decide +kernel) rfl rfl (by decide +kernel)) (
  mA (i := 42) (ok_cge (off := 50) (pc := 77) (tgt := 127) rfl rfl rfl (by decide +kernel) (by decide +kernel)) (
  mA (i := 43) (ok_ald_n (f := 0) (pc := 80) rfl rfl rfl (by decide +kernel)) (
  mA (i := 44) (ok_ild (pc := 81) rfl rfl (by decide +kernel)) (
  mA (i := 45) (ok_ild (pc := 83) rfl rfl (by decide +kernel)) (
  mA (i := 46) (ok_callI (pc := 85) (can_V cal_N_isChosen (by decide +kernel) rfl (by decide +kernel) rfl wd_783 wd_784 wd_785 wd_605 (by decide +kernel)) rfl rfl) (
  mA (i := 47) (ok_ifne (off := 33) (pc := 88) (tgt := 121) rfl rfl rfl (by decide +kernel) (by decide +kernel)) (
  mA (i := 48) (ok_ald_n (f := 0) (pc := 91) rfl rfl rfl (by decide +kernel)) (
  mA (i := 49) (ok_ild (pc := 92) rfl rfl (by decide +kernel)) (
  mA (i := 50) (ok_ild (pc := 94) rfl rfl (by decide +kernel)) (
  mA (i := 51) (ok_callI (pc := 96) (can_V cal_N_pairsWith (by decide +kernel) rfl (by decide +kernel) rfl wd_786 wd_787 wd_788 wd_605 (by decide +kernel)) rfl rfl) (
  mA (i := 52) (ok_ild (pc := 99) rfl rfl (by decide +kernel)) (
  mA (i := 53) (ok_clt (off := 6) (pc := 101) (tgt := 107) rfl rfl rfl (by decide +kernel) (by decide +kernel)) (
  mA (i := 54) (ok_goto (off := 17) (pc := 104) (tgt := 121) rfl rfl (by decide +kernel) (by decide +kernel)) (
  mA (i := 55) (ok_ild (pc := 107) rfl rfl (by decide +kernel)) (
  mA (i := 56) (ok_ist (pc := 109) (by decide +kernel) rfl rfl rfl (by decide +kernel)) (
  mA (i := 57) (ok_ald_n (f := 0) (pc := 111) rfl rfl rfl (by decide +kernel)) (
  mA (i := 58) (ok_ild (pc := 112) rfl rfl (by decide +kernel)) (
  mA (i := 59) (ok_ild (pc := 114) rfl rfl (by decide +kernel)) (
  ok_N_greedy_t60))))))))))))))))))))))))))))))))))))))))))))))))))))))))))))
set_option maxRecDepth 20000 in
theorem ok_N_lay_t60 : mAll (mOk RX10 cX10_lay 3 true false (some .int) (mnat p_N_lay)) 60 [o_iret] := mA (i := 60) (ok_iret (pc := 110) rfl rfl (by decide +kernel)) (
  mZ)
set_option maxRecDepth 20000 in
theorem ok_N_lay : mAll (mOk RX10 cX10_lay 3 true false (some .int) (mnat p_N_lay)) 0 k_N_lay := mA (i := 0) (ok_ald_n (f := 0) (pc := 0) rfl rfl rfl (by decide +kernel)) (
  mA (i := 1) (ok_ic (n := 0) (pc := 1) (by decide +kernel) rfl rfl (by decide +kernel)) (
  mA (i := 2) (ok_pI (pc := 2) rfl (by decide +kernel) wd_618 inw_11 tyX10_ok nmX10 rfl (by decide +kernel) rfl rfl (by decide +kernel)) (
  mA (i := 3) (ok_ild_n (f := 1) (pc := 5) rfl rfl rfl (by decide +kernel)) (
  mA (i := 4) (ok_callI (pc := 6) (can_S cal_N_isFeature (by decide +kernel) wd_771 wd_770 wd_605 (by decide +kernel)) rfl rfl) (
  mA (i := 5) (ok_ifne (off := 6) (pc := 9) (tgt := 15) rfl rfl rfl (by decide +kernel) (by decide +kernel)) (
  mA (i := 6) (ok_bi (n := (-2)) (pc := 12) (by decide +kernel) rfl rfl (by decide +kernel)) (
  mA (i := 7) (ok_iret (pc := 14) rfl rfl (by decide +kernel)) (
  mA (i := 8) (ok_ald_n (f := 0) (pc := 15) rfl rfl rfl (by decide +kernel)) (
  mA (i := 9) (ok_gP (pc := 16) rfl (by decide +kernel) wd_575 inw_11 rfl rfl (by decide +kernel)) (
  mA (i := 10) (ok_si (n := 800) (pc := 19) (by decide +kernel) rfl rfl (by decide +kernel)) (
  mA (i := 11) (ok_iald (pc := 22) rfl rfl (by decide +kernel)) (
  mA (i := 12) (ok_bi (n := 8) (pc := 23) (by decide +kernel) rfl rfl (by decide +kernel)) (
  mA (i := 13) (ok_cne (off := 6) (pc := 25) (tgt := 31) rfl rfl rfl (by decide +kernel) (by decide +kernel)) (
  mA (i := 14) (ok_bi (n := (-4)) (pc := 28) (by decide +kernel) rfl rfl (by decide +kernel)) (
  mA (i := 15) (ok_iret (pc := 30) rfl rfl (by decide +kernel)) (
  mA (i := 16) (ok_ic (n := 0) (pc := 31) (by decide +kernel) rfl rfl (by decide +kernel)) (
  mA (i := 17) (ok_ist_n (f := 2) (pc := 32) rfl (by decide +kernel) rfl rfl rfl (by decide +kernel)) (
  mA (i := 18) (ok_ild_n (f := 2) (pc := 33) rfl rfl rfl (by decide +kernel)) (
  mA (i := 19) (ok_ald_n (f := 0) (pc := 34) rfl rfl rfl (by decide +kernel)) (
  mA (i := 20) (ok_gP (pc := 35) rfl (by decide +kernel) wd_575 inw_11 rfl rfl (by decide +kernel)) (
  mA (i := 21) (ok_si (n := 800) (pc := 38) (by decide +kernel) rfl rfl (by decide +kernel)) (
  mA (i := 22) (ok_iald (pc := 41) rfl rfl (by decide +kernel)) (
  mA (i := 23) (ok_cge (off := 26) (pc := 42) (tgt := 68) rfl rfl rfl (by decide +kernel) (by decide +kernel)) (
  mA (i := 24) (ok_ald_n (f := 0) (pc := 45) rfl rfl rfl (by decide +kernel)) (
  mA (i := 25) (ok_gP (pc := 46) rfl (by decide +kernel) wd_575 inw_11 rfl rfl (by decide +kernel)) (
  mA (i := 26) (ok_si (n := 801) (pc := 49) (by decide +kernel) rfl rfl (by decide +kernel)) (
  mA (i := 27) (ok_ild_n (f := 2) (pc := 52) rfl rfl rfl (by decide +kernel)) (
  mA (i := 28) (ok_add (pc := 53) rfl rfl (by decide +kernel)) (
  mA (i := 29) (ok_iald (pc := 54) rfl rfl (by decide +kernel)) (
  mA (i := 30) (ok_ild_n (f := 1) (pc := 55) rfl rfl rfl (by decide +kernel)) (
  mA (i := 31) (ok_cne (off := 6) (pc := 56) (tgt := 62) rfl rfl rfl (by decide +kernel) (by decide +kernel)) (
  mA (i := 32) (ok_bi (n := (-5)) (pc := 59) (by decide +kernel) rfl rfl (by decide +kernel)) (
  mA (i := 33) (ok_iret (pc := 61) rfl rfl (by decide +kernel)) (
  mA (i := 34) (ok_inc (z := 1) (pc := 62) (by decide +kernel) (by decide +kernel) rfl rfl rfl (by decide +kernel)) (
  mA (i := 35) (ok_goto (off := (-32)) (pc := 65) (tgt := 33) rfl rfl (by decide +kernel) (by decide +kernel)) (
  mA (i := 36) (ok_ald_n (f := 0) (pc := 68) rfl rfl rfl (by decide +kernel)) (
  mA (i := 37) (ok_callV (pc := 69) (can_V cal_N_notes (by decide +kernel) rfl (by decide +kernel) rfl wd_665 wd_666 wd_667 wd_605 (by decide +kernel)) rfl rfl) (
  mA (i := 38) (ok_ald_n (f := 0) (pc := 72) rfl rfl rfl (by decide +kernel)) (
  mA (i := 39) (ok_gP (pc := 73) rfl (by decide +kernel) wd_575 inw_11 rfl rfl (by decide +kernel)) (
  mA (i := 40) (ok_si (n := 801) (pc := 76) (by decide +kernel) rfl rfl (by decide +kernel)) (
  mA (i := 41) (ok_ald_n (f := 0) (pc := 79) rfl rfl rfl (by decide +kernel)) (
  mA (i := 42) (ok_gP (pc := 80) rfl (by decide +kernel) wd_575 inw_11 rfl rfl (by decide +kernel)) (
  mA (i := 43) (ok_si (n := 800) (pc := 83) (by decide +kernel) rfl rfl (by decide +kernel)) (
  mA (i := 44) (ok_iald (pc := 86) rfl rfl (by decide +kernel)) (
  mA (i := 45) (ok_add (pc := 87) rfl rfl (by decide +kernel)) (
  mA (i := 46) (ok_ild_n (f := 1) (pc := 88) rfl rfl rfl (by decide +kernel)) (
  mA (i := 47) (ok_iast (pc := 89) rfl rfl (by decide +kernel)) (
  mA (i := 48) (ok_ald_n (f := 0) (pc := 90) rfl rfl rfl (by decide +kernel)) (
  mA (i := 49) (ok_gP (pc := 91) rfl (by decide +kernel) wd_575 inw_11 rfl rfl (by decide +kernel)) (
  mA (i := 50) (ok_si (n := 800) (pc := 94) (by decide +kernel) rfl rfl (by decide +kernel)) (
  mA (i := 51) (ok_dup2 (pc := 97) rfl rfl (by decide +kernel)) (
  mA (i := 52) (ok_iald (pc := 98) rfl rfl (by decide +kernel)) (
  mA (i := 53) (ok_ic (n := 1) (pc := 99) (by decide +kernel) rfl rfl (by decide +kernel)) (
  mA (i := 54) (ok_add (pc := 100) rfl rfl (by decide +kernel)) (
  mA (i := 55) (ok_iast (pc := 101) rfl rfl (by decide +kernel)) (
  mA (i := 56) (ok_ald_n (f := 0) (pc := 102) rfl rfl rfl (by decide +kernel)) (
  mA (i := 57) (ok_gP (pc := 103) rfl (by decide +kernel) wd_575 inw_11 rfl rfl (by decide +kernel)) (
  mA (i := 58) (ok_si (n := 800) (pc := 106) (by decide +kernel) rfl rfl (by decide +kernel)) (
  mA (i := 59) (ok_iald (pc := 109) rfl rfl (by decide +kernel)) (
  ok_N_lay_t60))))))))))))))))))))))))))))))))))))))))))))))))))))))))))))
set_option maxRecDepth 20000 in
theorem ok_N_unlay : mAll (mOk RX10 cX10_unlay 1 true false (some .int) (mnat p_N_unlay)) 0 k_N_unlay := mA (i := 0) (ok_ald_n (f := 0) (pc := 0) rfl rfl rfl (by decide +kernel)) (
  mA (i := 1) (ok_ic (n := 0) (pc := 1) (by decide +kernel) rfl rfl (by decide +kernel)) (
  mA (i := 2) (ok_pI (pc := 2) rfl (by decide +kernel) wd_618 inw_11 tyX10_ok nmX10 rfl (by decide +kernel) rfl rfl (by decide +kernel)) (
  mA (i := 3) (ok_ald_n (f := 0) (pc := 5) rfl rfl rfl (by decide +kernel)) (
  mA (i := 4) (ok_gP (pc := 6) rfl (by decide +kernel) wd_575 inw_11 rfl rfl (by decide +kernel)) (
  mA (i := 5) (ok_si (n := 800) (pc := 9) (by decide +kernel) rfl rfl (by decide +kernel)) (
  mA (i := 6) (ok_iald (pc := 12) rfl rfl (by decide +kernel)) (
  mA (i := 7) (ok_ifne (off := 6) (pc := 13) (tgt := 19) rfl rfl rfl (by decide +kernel) (by decide +kernel)) (
  mA (i := 8) (ok_bi (n := (-5)) (pc := 16) (by decide +kernel) rfl rfl (by decide +kernel)) (
  mA (i := 9) (ok_iret (pc := 18) rfl rfl (by decide +kernel)) (
  mA (i := 10) (ok_ald_n (f := 0) (pc := 19) rfl rfl rfl (by decide +kernel)) (
  mA (i := 11) (ok_callV (pc := 20) (can_V cal_N_notes (by decide +kernel) rfl (by decide +kernel) rfl wd_665 wd_666 wd_667 wd_605 (by decide +kernel)) rfl rfl) (
  mA (i := 12) (ok_ald_n (f := 0) (pc := 23) rfl rfl rfl (by decide +kernel)) (
  mA (i := 13) (ok_gP (pc := 24) rfl (by decide +kernel) wd_575 inw_11 rfl rfl (by decide +kernel)) (
  mA (i := 14) (ok_si (n := 800) (pc := 27) (by decide +kernel) rfl rfl (by decide +kernel)) (
  mA (i := 15) (ok_dup2 (pc := 30) rfl rfl (by decide +kernel)) (
  mA (i := 16) (ok_iald (pc := 31) rfl rfl (by decide +kernel)) (
  mA (i := 17) (ok_ic (n := 1) (pc := 32) (by decide +kernel) rfl rfl (by decide +kernel)) (
  mA (i := 18) (ok_sub (pc := 33) rfl rfl (by decide +kernel)) (
  mA (i := 19) (ok_iast (pc := 34) rfl rfl (by decide +kernel)) (
  mA (i := 20) (ok_ald_n (f := 0) (pc := 35) rfl rfl rfl (by decide +kernel)) (
  mA (i := 21) (ok_gP (pc := 36) rfl (by decide +kernel) wd_575 inw_11 rfl rfl (by decide +kernel)) (
  mA (i := 22) (ok_si (n := 801) (pc := 39) (by decide +kernel) rfl rfl (by decide +kernel)) (
  mA (i := 23) (ok_ald_n (f := 0) (pc := 42) rfl rfl rfl (by decide +kernel)) (
  mA (i := 24) (ok_gP (pc := 43) rfl (by decide +kernel) wd_575 inw_11 rfl rfl (by decide +kernel)) (
  mA (i := 25) (ok_si (n := 800) (pc := 46) (by decide +kernel) rfl rfl (by decide +kernel)) (
  mA (i := 26) (ok_iald (pc := 49) rfl rfl (by decide +kernel)) (
  mA (i := 27) (ok_add (pc := 50) rfl rfl (by decide +kernel)) (
  mA (i := 28) (ok_ic (n := 0) (pc := 51) (by decide +kernel) rfl rfl (by decide +kernel)) (
  mA (i := 29) (ok_iast (pc := 52) rfl rfl (by decide +kernel)) (
  mA (i := 30) (ok_ald_n (f := 0) (pc := 53) rfl rfl rfl (by decide +kernel)) (
  mA (i := 31) (ok_gP (pc := 54) rfl (by decide +kernel) wd_575 inw_11 rfl rfl (by decide +kernel)) (
  mA (i := 32) (ok_si (n := 800) (pc := 57) (by decide +kernel) rfl rfl (by decide +kernel)) (
  mA (i := 33) (ok_iald (pc := 60) rfl rfl (by decide +kernel)) (
  mA (i := 34) (ok_iret (pc := 61) rfl rfl (by decide +kernel)) (
  mZ)))))))))))))))))))))))))))))))))))
set_option maxRecDepth 20000 in
theorem ok_N_order : mAll (mOk RX10 cX10_order 2 true false (some .int) (mnat p_N_order)) 0 k_N_order := mA (i := 0) (ok_ald_n (f := 0) (pc := 0) rfl rfl rfl (by decide +kernel)) (
  mA (i := 1) (ok_ic (n := 0) (pc := 1) (by decide +kernel) rfl rfl (by decide +kernel)) (
  mA (i := 2) (ok_pI (pc := 2) rfl (by decide +kernel) wd_618 inw_11 tyX10_ok nmX10 rfl (by decide +kernel) rfl rfl (by decide +kernel)) (
  mA (i := 3) (ok_ild_n (f := 1) (pc := 5) rfl rfl rfl (by decide +kernel)) (
  mA (i := 4) (ok_i2l (pc := 6) rfl rfl (by decide +kernel)) (
  mA (i := 5) (ok_lc (n := 0) (pc := 7) (by decide +kernel) rfl rfl (by decide +kernel)) (
  mA (i := 6) (ok_ald_n (f := 0) (pc := 8) rfl rfl rfl (by decide +kernel)) (
  mA (i := 7) (ok_gP (pc := 9) rfl (by decide +kernel) wd_575 inw_11 rfl rfl (by decide +kernel)) (
  mA (i := 8) (ok_si (n := 800) (pc := 12) (by decide +kernel) rfl rfl (by decide +kernel)) (
  mA (i := 9) (ok_iald (pc := 15) rfl rfl (by decide +kernel)) (
  mA (i := 10) (ok_ic (n := 1) (pc := 16) (by decide +kernel) rfl rfl (by decide +kernel)) (
  mA (i := 11) (ok_sub (pc := 17) rfl rfl (by decide +kernel)) (
  mA (i := 12) (ok_i2l (pc := 18) rfl rfl (by decide +kernel)) (
  mA (i := 13) (ok_callI (pc := 19) (can_S cal_N_within (by decide +kernel) wd_606 wd_604 wd_605 (by decide +kernel)) rfl rfl) (
  mA (i := 14) (ok_ifeq (off := 16) (pc := 22) (tgt := 38) rfl rfl rfl (by decide +kernel) (by decide +kernel)) (
  mA (i := 15) (ok_ald_n (f := 0) (pc := 25) rfl rfl rfl (by decide +kernel)) (
  mA (i := 16) (ok_gP (pc := 26) rfl (by decide +kernel) wd_575 inw_11 rfl rfl (by decide +kernel)) (
  mA (i := 17) (ok_si (n := 801) (pc := 29) (by decide +kernel) rfl rfl (by decide +kernel)) (
  mA (i := 18) (ok_ild_n (f := 1) (pc := 32) rfl rfl rfl (by decide +kernel)) (
  mA (i := 19) (ok_add (pc := 33) rfl rfl (by decide +kernel)) (
  mA (i := 20) (ok_iald (pc := 34) rfl rfl (by decide +kernel)) (
  mA (i := 21) (ok_goto (off := 4) (pc := 35) (tgt := 39) rfl rfl (by decide +kernel) (by decide +kernel)) (
  mA (i := 22) (ok_ic (n := (-1)) (pc := 38) (by decide +kernel) rfl rfl (by decide +kernel)) (
  mA (i := 23) (ok_iret (pc := 39) rfl rfl (by decide +kernel)) (
  mZ))))))))))))))))))))))))
set_option maxRecDepth 20000 in
theorem ok_N_firstUnlike : mAll (mOk RX10 cX10_firstUnlike 4 true false (some .int) (mnat p_N_firstUnlike)) 0 k_N_firstUnlike := mA (i := 0) (ok_ic (n := 0) (pc := 0) (by decide +kernel) rfl rfl (by decide +kernel)) (
  mA (i := 1) (ok_ist_n (f := 3) (pc := 1) rfl (by decide +kernel) rfl rfl rfl (by decide +kernel)) (
  mA (i := 2) (ok_ild_n (f := 3) (pc := 2) rfl rfl rfl (by decide +kernel)) (
  mA (i := 3) (ok_ald_n (f := 0) (pc := 3) rfl rfl rfl (by decide +kernel)) (
  mA (i := 4) (ok_gP (pc := 4) rfl (by decide +kernel) wd_575 inw_11 rfl rfl (by decide +kernel)) (
  mA (i := 5) (ok_si (n := 800) (pc := 7) (by decide +kernel) rfl rfl (by decide +kernel)) (
  mA (i := 6) (ok_iald (pc := 10) rfl rfl (by decide +kernel)) (
  mA (i := 7) (ok_cge (off := 52) (pc := 11) (tgt := 63) rfl rfl rfl (by decide +kernel) (by decide +kernel)) (
  mA (i := 8) (ok_ald_n (f := 0) (pc := 14) rfl rfl rfl (by decide +kernel)) (
  mA (i := 9) (ok_gP (pc := 15) rfl (by decide +kernel) wd_589 inw_11 rfl rfl (by decide +kernel)) (
  mA (i := 10) (ok_bi (n := 40) (pc := 18) (by decide +kernel) rfl rfl (by decide +kernel)) (
  mA (i := 11) (ok_ild_n (f := 1) (pc := 20) rfl rfl rfl (by decide +kernel)) (
  mA (i := 12) (ok_mul (pc := 21) rfl rfl (by decide +kernel)) (
  mA (i := 13) (ok_ald_n (f := 0) (pc := 22) rfl rfl rfl (by decide +kernel)) (
  mA (i := 14) (ok_gP (pc := 23) rfl (by decide +kernel) wd_575 inw_11 rfl rfl (by decide +kernel)) (
  mA (i := 15) (ok_si (n := 801) (pc := 26) (by decide +kernel) rfl rfl (by decide +kernel)) (
  mA (i := 16) (ok_ild_n (f := 3) (pc := 29) rfl rfl rfl (by decide +kernel)) (
  mA (i := 17) (ok_add (pc := 30) rfl rfl (by decide +kernel)) (
  mA (i := 18) (ok_iald (pc := 31) rfl rfl (by decide +kernel)) (
  mA (i := 19) (ok_add (pc := 32) rfl rfl (by decide +kernel)) (
  mA (i := 20) (ok_iald (pc := 33) rfl rfl (by decide +kernel)) (
  mA (i := 21) (ok_ald_n (f := 0) (pc := 34) rfl rfl rfl (by decide +kernel)) (
  mA (i := 22) (ok_gP (pc := 35) rfl (by decide +kernel) wd_589 inw_11 rfl rfl (by decide +kernel)) (
  mA (i := 23) (ok_bi (n := 40) (pc := 38) (by decide +kernel) rfl rfl (by decide +kernel)) (
  mA (i := 24) (ok_ild_n (f := 2) (pc := 40) rfl rfl rfl (by decide +kernel)) (
  mA (i := 25) (ok_mul (pc := 41) rfl rfl (by decide +kernel)) (
  mA (i := 26) (ok_ald_n (f := 0) (pc := 42) rfl rfl rfl (by decide +kernel)) (
  mA (i := 27) (ok_gP (pc := 43) rfl (by decide +kernel) wd_575 inw_11 rfl rfl (by decide +kernel)) (
  mA (i := 28) (ok_si (n := 801) (pc := 46) (by decide +kernel) rfl rfl (by decide +kernel)) (
  mA (i := 29) (ok_ild_n (f := 3) (pc := 49) rfl rfl rfl (by decide +kernel)) (
  mA (i := 30) (ok_add (pc := 50) rfl rfl (by decide +kernel)) (
  mA (i := 31) (ok_iald (pc := 51) rfl rfl (by decide +kernel)) (
  mA (i := 32) (ok_add (pc := 52) rfl rfl (by decide +kernel)) (
  mA (i := 33) (ok_iald (pc := 53) rfl rfl (by decide +kernel)) (
  mA (i := 34) (ok_cne (off := 9) (pc := 54) (tgt := 63) rfl rfl rfl (by decide +kernel) (by decide +kernel)) (
  mA (i := 35) (ok_inc (z := 1) (pc := 57) (by decide +kernel) (by decide +kernel) rfl rfl rfl (by decide +kernel)) (
  mA (i := 36) (ok_goto (off := (-58)) (pc := 60) (tgt := 2) rfl rfl (by decide +kernel) (by decide +kernel)) (
  mA (i := 37) (ok_ild_n (f := 3) (pc := 63) rfl rfl rfl (by decide +kernel)) (
  mA (i := 38) (ok_iret (pc := 64) rfl rfl (by decide +kernel)) (
  mZ)))))))))))))))))))))))))))))))))))))))
set_option maxRecDepth 20000 in
theorem ok_N_isAhead : mAll (mOk RX10 cX10_isAhead 4 true false (some .boolean) (mnat p_N_isAhead)) 0 k_N_isAhead := mA (i := 0) (ok_ald_n (f := 0) (pc := 0) rfl rfl rfl (by decide +kernel)) (
  mA (i := 1) (ok_ild_n (f := 1) (pc := 1) rfl rfl rfl (by decide +kernel)) (
  mA (i := 2) (ok_ild_n (f := 2) (pc := 2) rfl rfl rfl (by decide +kernel)) (
  mA (i := 3) (ok_callI (pc := 3) (can_V cal_N_firstUnlike (by decide +kernel) rfl (by decide +kernel) rfl wd_789 wd_790 wd_791 wd_605 (by decide +kernel)) rfl rfl) (
  mA (i := 4) (ok_ist_n (f := 3) (pc := 6) rfl (by decide +kernel) rfl rfl rfl (by decide +kernel)) (
  mA (i := 5) (ok_ild_n (f := 3) (pc := 7) rfl rfl rfl (by decide +kernel)) (
  mA (i := 6) (ok_ald_n (f := 0) (pc := 8) rfl rfl rfl (by decide +kernel)) (
  mA (i := 7) (ok_gP (pc := 9) rfl (by decide +kernel) wd_575 inw_11 rfl rfl (by decide +kernel)) (
  mA (i := 8) (ok_si (n := 800) (pc := 12) (by decide +kernel) rfl rfl (by decide +kernel)) (
  mA (i := 9) (ok_iald (pc := 15) rfl rfl (by decide +kernel)) (
  mA (i := 10) (ok_cne (off := 14) (pc := 16) (tgt := 30) rfl rfl rfl (by decide +kernel) (by decide +kernel)) (
  mA (i := 11) (ok_ild_n (f := 1) (pc := 19) rfl rfl rfl (by decide +kernel)) (
  mA (i := 12) (ok_ild_n (f := 2) (pc := 20) rfl rfl rfl (by decide +kernel)) (
  mA (i := 13) (ok_cge (off := 7) (pc := 21) (tgt := 28) rfl rfl rfl (by decide +kernel) (by decide +kernel)) (
  mA (i := 14) (ok_ic (n := 1) (pc := 24) (by decide +kernel) rfl rfl (by decide +kernel)) (
  mA (i := 15) (ok_goto (off := 4) (pc := 25) (tgt := 29) rfl rfl (by decide +kernel) (by decide +kernel)) (
  mA (i := 16) (ok_ic (n := 0) (pc := 28) (by decide +kernel) rfl rfl (by decide +kernel)) (
  mA (i := 17) (ok_zret (pc := 29) rfl rfl (by decide +kernel)) (
  mA (i := 18) (ok_ald_n (f := 0) (pc := 30) rfl rfl rfl (by decide +kernel)) (
  mA (i := 19) (ok_gP (pc := 31) rfl (by decide +kernel) wd_589 inw_11 rfl rfl (by decide +kernel)) (
  mA (i := 20) (ok_bi (n := 40) (pc := 34) (by decide +kernel) rfl rfl (by decide +kernel)) (
  mA (i := 21) (ok_ild_n (f := 1) (pc := 36) rfl rfl rfl (by decide +kernel)) (
  mA (i := 22) (ok_mul (pc := 37) rfl rfl (by decide +kernel)) (
  mA (i := 23) (ok_ald_n (f := 0) (pc := 38) rfl rfl rfl (by decide +kernel)) (
  mA (i := 24) (ok_gP (pc := 39) rfl (by decide +kernel) wd_575 inw_11 rfl rfl (by decide +kernel)) (
  mA (i := 25) (ok_si (n := 801) (pc := 42) (by decide +kernel) rfl rfl (by decide +kernel)) (
  mA (i := 26) (ok_ild_n (f := 3) (pc := 45) rfl rfl rfl (by decide +kernel)) (
  mA (i := 27) (ok_add (pc := 46) rfl rfl (by decide +kernel)) (
  mA (i := 28) (ok_iald (pc := 47) rfl rfl (by decide +kernel)) (
  mA (i := 29) (ok_add (pc := 48) rfl rfl (by decide +kernel)) (
  mA (i := 30) (ok_iald (pc := 49) rfl rfl (by decide +kernel)) (
  mA (i := 31) (ok_ald_n (f := 0) (pc := 50) rfl rfl rfl (by decide +kernel)) (
  mA (i := 32) (ok_gP (pc := 51) rfl (by decide +kernel) wd_589 inw_11 rfl rfl (by decide +kernel)) (
  mA (i := 33) (ok_bi (n := 40) (pc := 54) (by decide +kernel) rfl rfl (by decide +kernel)) (
  mA (i := 34) (ok_ild_n (f := 2) (pc := 56) rfl rfl rfl (by decide +kernel)) (
  mA (i := 35) (ok_mul (pc := 57) rfl rfl (by decide +kernel)) (
  mA (i := 36) (ok_ald_n (f := 0) (pc := 58) rfl rfl rfl (by decide +kernel)) (
  mA (i := 37) (ok_gP (pc := 59) rfl (by decide +kernel) wd_575 inw_11 rfl rfl (by decide +kernel)) (
  mA (i := 38) (ok_si (n := 801) (pc := 62) (by decide +kernel) rfl rfl (by decide +kernel)) (
  mA (i := 39) (ok_ild_n (f := 3) (pc := 65) rfl rfl rfl (by decide +kernel)) (
  mA (i := 40) (ok_add (pc := 66) rfl rfl (by decide +kernel)) (
  mA (i := 41) (ok_iald (pc := 67) rfl rfl (by decide +kernel)) (
  mA (i := 42) (ok_add (pc := 68) rfl rfl (by decide +kernel)) (
  mA (i := 43) (ok_iald (pc := 69) rfl rfl (by decide +kernel)) (
  mA (i := 44) (ok_cge (off := 7) (pc := 70) (tgt := 77) rfl rfl rfl (by decide +kernel) (by decide +kernel)) (
  mA (i := 45) (ok_ic (n := 1) (pc := 73) (by decide +kernel) rfl rfl (by decide +kernel)) (
  mA (i := 46) (ok_goto (off := 4) (pc := 74) (tgt := 78) rfl rfl (by decide +kernel) (by decide +kernel)) (
  mA (i := 47) (ok_ic (n := 0) (pc := 77) (by decide +kernel) rfl rfl (by decide +kernel)) (
  mA (i := 48) (ok_zret (pc := 78) rfl rfl (by decide +kernel)) (
  mZ)))))))))))))))))))))))))))))))))))))))))))))))))
set_option maxRecDepth 20000 in
theorem ok_N_laysNode : mAll (mOk RX10 cX10_laysNode 4 true false none (mnat p_N_laysNode)) 0 k_N_laysNode := mA (i := 0) (ok_ald_n (f := 0) (pc := 0) rfl rfl rfl (by decide +kernel)) (
  mA (i := 1) (ok_gP (pc := 1) rfl (by decide +kernel) wd_593 inw_11 rfl rfl (by decide +kernel)) (
  mA (i := 2) (ok_ald_n (f := 0) (pc := 4) rfl rfl rfl (by decide +kernel)) (
  mA (i := 3) (ok_gI (pc := 5) rfl (by decide +kernel) wd_782 inw_11 rfl rfl (by decide +kernel)) (
  mA (i := 4) (ok_ild_n (f := 1) (pc := 8) rfl rfl rfl (by decide +kernel)) (
  mA (i := 5) (ok_iast (pc := 9) rfl rfl (by decide +kernel)) (
  mA (i := 6) (ok_ald_n (f := 0) (pc := 10) rfl rfl rfl (by decide +kernel)) (
  mA (i := 7) (ok_gP (pc := 11) rfl (by decide +kernel) wd_594 inw_11 rfl rfl (by decide +kernel)) (
  mA (i := 8) (ok_ald_n (f := 0) (pc := 14) rfl rfl rfl (by decide +kernel)) (
  mA (i := 9) (ok_gI (pc := 15) rfl (by decide +kernel) wd_782 inw_11 rfl rfl (by decide +kernel)) (
  mA (i := 10) (ok_ild_n (f := 2) (pc := 18) rfl rfl rfl (by decide +kernel)) (
  mA (i := 11) (ok_iast (pc := 19) rfl rfl (by decide +kernel)) (
  mA (i := 12) (ok_ald_n (f := 0) (pc := 20) rfl rfl rfl (by decide +kernel)) (
  mA (i := 13) (ok_gP (pc := 21) rfl (by decide +kernel) wd_595 inw_11 rfl rfl (by decide +kernel)) (
  mA (i := 14) (ok_ald_n (f := 0) (pc := 24) rfl rfl rfl (by decide +kernel)) (
  mA (i := 15) (ok_gI (pc := 25) rfl (by decide +kernel) wd_782 inw_11 rfl rfl (by decide +kernel)) (
  mA (i := 16) (ok_ild_n (f := 3) (pc := 28) rfl rfl rfl (by decide +kernel)) (
  mA (i := 17) (ok_iast (pc := 29) rfl rfl (by decide +kernel)) (
  mA (i := 18) (ok_ald_n (f := 0) (pc := 30) rfl rfl rfl (by decide +kernel)) (
  mA (i := 19) (ok_gP (pc := 31) rfl (by decide +kernel) wd_596 inw_11 rfl rfl (by decide +kernel)) (
  mA (i := 20) (ok_ald_n (f := 0) (pc := 34) rfl rfl rfl (by decide +kernel)) (
  mA (i := 21) (ok_gI (pc := 35) rfl (by decide +kernel) wd_782 inw_11 rfl rfl (by decide +kernel)) (
  mA (i := 22) (ok_ic (n := 0) (pc := 38) (by decide +kernel) rfl rfl (by decide +kernel)) (
  mA (i := 23) (ok_iast (pc := 39) rfl rfl (by decide +kernel)) (
  mA (i := 24) (ok_ald_n (f := 0) (pc := 40) rfl rfl rfl (by decide +kernel)) (
  mA (i := 25) (ok_gP (pc := 41) rfl (by decide +kernel) wd_597 inw_11 rfl rfl (by decide +kernel)) (
  mA (i := 26) (ok_ald_n (f := 0) (pc := 44) rfl rfl rfl (by decide +kernel)) (
  mA (i := 27) (ok_gI (pc := 45) rfl (by decide +kernel) wd_782 inw_11 rfl rfl (by decide +kernel)) (
  mA (i := 28) (ok_ic (n := 0) (pc := 48) (by decide +kernel) rfl rfl (by decide +kernel)) (
  mA (i := 29) (ok_iast (pc := 49) rfl rfl (by decide +kernel)) (
  mA (i := 30) (ok_ild_n (f := 1) (pc := 50) rfl rfl rfl (by decide +kernel)) (
  mA (i := 31) (ok_ic (n := (-1)) (pc := 51) (by decide +kernel) rfl rfl (by decide +kernel)) (
  mA (i := 32) (ok_ceq (off := 13) (pc := 52) (tgt := 65) rfl rfl rfl (by decide +kernel) (by decide +kernel)) (
  mA (i := 33) (ok_ald_n (f := 0) (pc := 55) rfl rfl rfl (by decide +kernel)) (
  mA (i := 34) (ok_gP (pc := 56) rfl (by decide +kernel) wd_596 inw_11 rfl rfl (by decide +kernel)) (
  mA (i := 35) (ok_ild_n (f := 1) (pc := 59) rfl rfl rfl (by decide +kernel)) (
  mA (i := 36) (ok_dup2 (pc := 60) rfl rfl (by decide +kernel)) (
  mA (i := 37) (ok_iald (pc := 61) rfl rfl (by decide +kernel)) (
  mA (i := 38) (ok_ic (n := 1) (pc := 62) (by decide +kernel) rfl rfl (by decide +kernel)) (
  mA (i := 39) (ok_add (pc := 63) rfl rfl (by decide +kernel)) (
  mA (i := 40) (ok_iast (pc := 64) rfl rfl (by decide +kernel)) (
  mA (i := 41) (ok_ald_n (f := 0) (pc := 65) rfl rfl rfl (by decide +kernel)) (
  mA (i := 42) (ok_gP (pc := 66) rfl (by decide +kernel) wd_599 inw_11 rfl rfl (by decide +kernel)) (
  mA (i := 43) (ok_ild_n (f := 2) (pc := 69) rfl rfl rfl (by decide +kernel)) (
  mA (i := 44) (ok_ald_n (f := 0) (pc := 70) rfl rfl rfl (by decide +kernel)) (
  mA (i := 45) (ok_gI (pc := 71) rfl (by decide +kernel) wd_782 inw_11 rfl rfl (by decide +kernel)) (
  mA (i := 46) (ok_iast (pc := 74) rfl rfl (by decide +kernel)) (
  mA (i := 47) (ok_ald_n (f := 0) (pc := 75) rfl rfl rfl (by decide +kernel)) (
  mA (i := 48) (ok_dup (pc := 76) rfl rfl (by decide +kernel)) (
  mA (i := 49) (ok_gI (pc := 77) rfl (by decide +kernel) wd_782 inw_11 rfl rfl (by decide +kernel)) (
  mA (i := 50) (ok_ic (n := 1) (pc := 80) (by decide +kernel) rfl rfl (by decide +kernel)) (
  mA (i := 51) (ok_add (pc := 81) rfl rfl (by decide +kernel)) (
  mA (i := 52) (ok_pI (pc := 82) rfl (by decide +kernel) wd_782 inw_11 tyX10_ok nmX10 rfl (by decide +kernel) rfl rfl (by decide +kernel)) (
  mA (i := 53) (ok_vret (pc := 85) rfl rfl (by decide +kernel)) (
  mZ))))))))))))))))))))))))))))))))))))))))))))))))))))))
set_option maxRecDepth 20000 in
theorem ok_N_laysTree_t120 : mAll (mOk RX10 cX10_laysTree 6 true false none (mnat p_N_laysTree)) 120 [o_cgt 134, o_ald 0, o_gP 11 41, o_ald 0, o_gP 11 43, o_ild 5, o_ald4 21, o_dup2, o_ald4 21, o_ic (nI 1), o_add, o_iast, o_inc 5 (nI 1), o_goto 115, o_ald 0, o_gP 11 42, o_ild 3, o_ald 0, o_gP 11 43, o_ald 0, o_gP 11 1, o_ic (nI 800), o_ald4 21, o_ald4 21, o_iast, o_inc 2 (nI 1), o_goto 59, o_vret] := mA (i := 120) (ok_cgt (off := 25) (pc := 205) (tgt := 230) rfl rfl rfl (by decide +kernel) (by decide +kernel)) (
  mA (i := 121) (ok_ald_n (f := 0) (pc := 208) rfl rfl rfl (by decide +kernel)) (
  mA (i := 122) (ok_gP (pc := 209) rfl (by decide +kernel) wd_597 inw_11 rfl rfl (by decide +kernel)) (
  mA (i := 123) (ok_ald_n (f := 0) (pc := 212) rfl rfl rfl (by decide +kernel)) (
  mA (i := 124) (ok_gP (pc := 213) rfl (by decide +kernel) wd_599 inw_11 rfl rfl (by decide +kernel)) (
  mA (i := 125) (ok_ild (pc := 216) rfl rfl (by decide +kernel)) (
  mA (i := 126) (ok_iald (pc := 218) rfl rfl (by decide +kernel)) (
  mA (i := 127) (ok_dup2 (pc := 219) rfl rfl (by decide +kernel)) (
  mA (i := 128) (ok_iald (pc := 220) rfl rfl (by decide +kernel)) (
  mA (i := 129) (ok_ic (n := 1) (pc := 221) (by decide +kernel) rfl rfl (by decide +kernel)) (
  mA (i := 130) (ok_add (pc := 222) rfl rfl (by decide +kernel)) (
  mA (i := 131) (ok_iast (pc := 223) rfl rfl (by decide +kernel)) (
  mA (i := 132) (ok_inc (z := 1) (pc := 224) (by decide +kernel) (by decide +kernel) rfl rfl rfl (by decide +kernel)) (
  mA (i := 133) (ok_goto (off := (-32)) (pc := 227) (tgt := 195) rfl rfl (by decide +kernel) (by decide +kernel)) (
  mA (i := 134) (ok_ald_n (f := 0) (pc := 230) rfl rfl rfl (by decide +kernel)) (
  mA (i := 135) (ok_gP (pc := 231) rfl (by decide +kernel) wd_598 inw_11 rfl rfl (by decide +kernel)) (
  mA (i := 136) (ok_ild_n (f := 3) (pc := 234) rfl rfl rfl (by decide +kernel)) (
  mA (i := 137) (ok_ald_n (f := 0) (pc := 235) rfl rfl rfl (by decide +kernel)) (
  mA (i := 138) (ok_gP (pc := 236) rfl (by decide +kernel) wd_599 inw_11 rfl rfl (by decide +kernel)) (
  mA (i := 139) (ok_ald_n (f := 0) (pc := 239) rfl rfl rfl (by decide +kernel)) (
  mA (i := 140) (ok_gP (pc := 240) rfl (by decide +kernel) wd_575 inw_11 rfl rfl (by decide +kernel)) (
  mA (i := 141) (ok_si (n := 800) (pc := 243) (by decide +kernel) rfl rfl (by decide +kernel)) (
  mA (i := 142) (ok_iald (pc := 246) rfl rfl (by decide +kernel)) (
  mA (i := 143) (ok_iald (pc := 247) rfl rfl (by decide +kernel)) (
  mA (i := 144) (ok_iast (pc := 248) rfl rfl (by decide +kernel)) (
  mA (i := 145) (ok_inc (z := 1) (pc := 249) (by decide +kernel) (by decide +kernel) rfl rfl rfl (by decide +kernel)) (
  mA (i := 146) (ok_goto (off := (-154)) (pc := 252) (tgt := 98) rfl rfl (by decide +kernel) (by decide +kernel)) (
  mA (i := 147) (ok_vret (pc := 255) rfl rfl (by decide +kernel)) (
  mZ))))))))))))))))))))))))))))
set_option maxRecDepth 20000 in
theorem ok_N_laysTree_t60 : mAll (mOk RX10 cX10_laysTree 6 true false none (mnat p_N_laysTree)) 60 [o_ild 1, o_cge 147, o_ald 0, o_gP 11 36, o_ild 2, o_ald4 21, o_ist 3, o_ild 2, o_ifne 71, o_ic (nI 0), o_goto 80, o_ald 0, o_ild 3, o_ald 0, o_gP 11 36, o_ild 2, o_ic (nI 1), o_sub, o_ald4 21, o_callI 276 3 11, o_ist 4, o_ild 4, o_ist 5, o_ild 5, o_ald 0, o_gP 11 1, o_ic (nI 800), o_ald4 21, o_cge 113, o_ald 0, o_ald 0, o_gP 11 43, o_ild 5, o_ald4 21, o_ild 5, o_ic (nI 1), o_add, o_ald 0, o_gP 11 33, o_ic (nI 40), o_ild 3, o_mul, o_ald 0, o_gP 11 1, o_ic (nI 801), o_ild 5, o_add, o_ald4 21, o_add, o_ald4 21, o_callV 278 4 11, o_inc 5 (nI 1), o_goto 83, o_ic (nI 0), o_ist 5, o_ild 5, o_ald 0, o_gP 11 1, o_ic (nI 800), o_ald4 21, o_cgt 134, o_ald 0, o_gP 11 41, o_ald 0, o_gP 11 43, o_ild 5, o_ald4 21, o_dup2, o_ald4 21, o_ic (nI 1), o_add, o_iast, o_inc 5 (nI 1), o_goto 115, o_ald 0, o_gP 11 42, o_ild 3, o_ald 0, o_gP 11 43, o_ald 0, o_gP 11 1, o_ic (nI 800), o_ald4 21, o_ald4 21, o_iast, o_inc 2 (nI 1), o_goto 59, o_vret] := mA (i := 60) (ok_ild_n (f := 1) (pc := 99) rfl rfl rfl (by decide +kernel)) (
  mA (i := 61) (ok_cge (off := 155) (pc := 100) (tgt := 255) rfl rfl rfl (by decide +kernel) (by decide +kernel)) (
  mA (i := 62) (ok_ald_n (f := 0) (pc := 103) rfl rfl rfl (by decide +kernel)) (
  mA (i := 63) (ok_gP (pc := 104) rfl (by decide +kernel) wd_592 inw_11 rfl rfl (by decide +kernel)) (
  mA (i := 64) (ok_ild_n (f := 2) (pc := 107) rfl rfl rfl (by decide +kernel)) (
  mA (i := 65) (ok_iald (pc := 108) rfl rfl (by decide +kernel)) (
  mA (i := 66) (ok_ist_n (f := 3) (pc := 109) rfl (by decide +kernel) rfl rfl rfl (by decide +kernel)) (
  mA (i := 67) (ok_ild_n (f := 2) (pc := 110) rfl rfl rfl (by decide +kernel)) (
  mA (i := 68) (ok_ifne (off := 7) (pc := 111) (tgt := 118) rfl rfl rfl (by decide +kernel) (by decide +kernel)) (
  mA (i := 69) (ok_ic (n := 0) (pc := 114) (by decide +kernel) rfl rfl (by decide +kernel)) (
  mA (i := 70) (ok_goto (off := 16) (pc := 115) (tgt := 131) rfl rfl (by decide +kernel) (by decide +kernel)) (
  mA (i := 71) (ok_ald_n (f := 0) (pc := 118) rfl rfl rfl (by decide +kernel)) (
  mA (i := 72) (ok_ild_n (f := 3) (pc := 119) rfl rfl rfl (by decide +kernel)) (
  mA (i := 73) (ok_ald_n (f := 0) (pc := 120) rfl rfl rfl (by decide +kernel)) (
  mA (i := 74) (ok_gP (pc := 121) rfl (by decide +kernel) wd_592 inw_11 rfl rfl (by decide +kernel)) (
  mA (i := 75) (ok_ild_n (f := 2) (pc := 124) rfl rfl rfl (by decide +kernel)) (
  mA (i := 76) (ok_ic (n := 1) (pc := 125) (by decide +kernel) rfl rfl (by decide +kernel)) (
  mA (i := 77) (ok_sub (pc := 126) rfl rfl (by decide +kernel)) (
  mA (i := 78) (ok_iald (pc := 127) rfl rfl (by decide +kernel)) (
  mA (i := 79) (ok_callI (pc := 128) (can_V cal_N_firstUnlike (by decide +kernel) rfl (by decide +kernel) rfl wd_789 wd_790 wd_791 wd_605 (by decide +kernel)) rfl rfl) (
  mA (i := 80) (ok_ist (pc := 131) (by decide +kernel) rfl rfl rfl (by decide +kernel)) (
  mA (i := 81) (ok_ild (pc := 133) rfl rfl (by decide +kernel)) (
  mA (i := 82) (ok_ist (pc := 135) (by decide +kernel) rfl rfl rfl (by decide +kernel)) (
  mA (i := 83) (ok_ild (pc := 137) rfl rfl (by decide +kernel)) (
  mA (i := 84) (ok_ald_n (f := 0) (pc := 139) rfl rfl rfl (by decide +kernel)) (
  mA (i := 85) (ok_gP (pc := 140) rfl (by decide +kernel) wd_575 inw_11 rfl rfl (by decide +kernel)) (
  mA (i := 86) (ok_si (n := 800) (pc := 143) (by decide +kernel) rfl rfl (by decide +kernel)) (
  mA (i := 87) (ok_iald (pc := 146) rfl rfl (by decide +kernel)) (
  mA (i := 88) (ok_cge (off := 45) (pc := 147) (tgt := 192) rfl rfl rfl (by decide +kernel) (by decide +kernel)) (
  mA (i := 89) (ok_ald_n (f := 0) (pc := 150) rfl rfl rfl (by decide +kernel)) (
  mA (i := 90) (ok_ald_n (f := 0) (pc := 151) rfl rfl rfl (by decide +kernel)) (
  mA (i := 91) (ok_gP (pc := 152) rfl (by decide +kernel) wd_599 inw_11 rfl rfl (by decide +kernel)) (
  mA (i := 92) (ok_ild (pc := 155) rfl rfl (by decide +kernel)) (
  mA (i := 93) (ok_iald (pc := 157) rfl rfl (by decide +kernel)) (
  mA (i := 94) (ok_ild (pc := 158) rfl rfl (by decide +kernel)) (
  mA (i := 95) (ok_ic (n := 1) (pc := 160) (by decide +kernel) rfl rfl (by decide +kernel)) (
  mA (i := 96) (ok_add (pc := 161) rfl rfl (by decide +kernel)) (
  mA (i := 97) (ok_ald_n (f := 0) (pc := 162) rfl rfl rfl (by decide +kernel)) (
  mA (i := 98) (ok_gP (pc := 163) rfl (by decide +kernel) wd_589 inw_11 rfl rfl (by decide +kernel)) (
  mA (i := 99) (ok_bi (n := 40) (pc := 166) (by decide +kernel) rfl rfl (by decide +kernel)) (
  mA (i := 100) (ok_ild_n (f := 3) (pc := 168) rfl rfl rfl (by decide +kernel)) (
  mA (i := 101) (ok_mul (pc := 169) rfl rfl (by decide +kernel)) (
  mA (i := 102) (ok_ald_n (f := 0) (pc := 170) rfl rfl rfl (by decide +kernel)) (
  mA (i := 103) (ok_gP (pc := 171) rfl (by decide +kernel) wd_575 inw_11 rfl rfl (by decide +kernel)) (
  mA (i := 104) (ok_si (n := 801) (pc := 174) (by decide +kernel) rfl rfl (by decide +kernel)) (
  mA (i := 105) (ok_ild (pc := 177) rfl rfl (by decide +kernel)) (
  mA (i := 106) (ok_add (pc := 179) rfl rfl (by decide +kernel)) (
  mA (i := 107) (ok_iald (pc := 180) rfl rfl (by decide +kernel)) (
  mA (i := 108) (ok_add (pc := 181) rfl rfl (by decide +kernel)) (
  mA (i := 109) (ok_iald (pc := 182) rfl rfl (by decide +kernel)) (
  mA (i := 110) (ok_callV (pc := 183) (can_V cal_N_laysNode (by decide +kernel) rfl (by decide +kernel) rfl wd_792 wd_793 wd_794 wd_605 (by decide +kernel)) rfl rfl) (
  mA (i := 111) (ok_inc (z := 1) (pc := 186) (by decide +kernel) (by decide +kernel) rfl rfl rfl (by decide +kernel)) (
  mA (i := 112) (ok_goto (off := (-52)) (pc := 189) (tgt := 137) rfl rfl (by decide +kernel) (by decide +kernel)) (
  mA (i := 113) (ok_ic (n := 0) (pc := 192) (by decide +kernel) rfl rfl (by decide +kernel)) (
  mA (i := 114) (ok_ist (pc := 193) (by decide +kernel) rfl rfl rfl (by decide +kernel)) (
  mA (i := 115) (ok_ild (pc := 195) rfl rfl (by decide +kernel)) (
  mA (i := 116) (ok_ald_n (f := 0) (pc := 197) rfl rfl rfl (by decide +kernel)) (
  mA (i := 117) (ok_gP (pc := 198) rfl (by decide +kernel) wd_575 inw_11 rfl rfl (by decide +kernel)) (
  mA (i := 118) (ok_si (n := 800) (pc := 201) (by decide +kernel) rfl rfl (by decide +kernel)) (
  mA (i := 119) (ok_iald (pc := 204) rfl rfl (by decide +kernel)) (
  ok_N_laysTree_t120))))))))))))))))))))))))))))))))))))))))))))))))))))))))))))
set_option maxRecDepth 20000 in
theorem ok_N_laysTree : mAll (mOk RX10 cX10_laysTree 6 true false none (mnat p_N_laysTree)) 0 k_N_laysTree := mA (i := 0) (ok_ald_n (f := 0) (pc := 0) rfl rfl rfl (by decide +kernel)) (
  mA (i := 1) (ok_ic (n := 1) (pc := 1) (by decide +kernel) rfl rfl (by decide +kernel)) (
  mA (i := 2) (ok_callV (pc := 2) (can_V cal_N_laysValues (by decide +kernel) rfl (by decide +kernel) rfl wd_772 wd_773 wd_774 wd_605 (by decide +kernel)) rfl rfl) (
  mA (i := 3) (ok_ald_n (f := 0) (pc := 5) rfl rfl rfl (by decide +kernel)) (
  mA (i := 4) (ok_ic (n := 0) (pc := 6) (by decide +kernel) rfl rfl (by decide +kernel)) (
  mA (i := 5) (ok_pI (pc := 7) rfl (by decide +kernel) wd_782 inw_11 tyX10_ok nmX10 rfl (by decide +kernel) rfl rfl (by decide +kernel)) (
  mA (i := 6) (ok_ald_n (f := 0) (pc := 10) rfl rfl rfl (by decide +kernel)) (
  mA (i := 7) (ok_ic (n := (-1)) (pc := 11) (by decide +kernel) rfl rfl (by decide +kernel)) (
  mA (i := 8) (ok_ic (n := 0) (pc := 12) (by decide +kernel) rfl rfl (by decide +kernel)) (
  mA (i := 9) (ok_ic (n := (-1)) (pc := 13) (by decide +kernel) rfl rfl (by decide +kernel)) (
  mA (i := 10) (ok_callV (pc := 14) (can_V cal_N_laysNode (by decide +kernel) rfl (by decide +kernel) rfl wd_792 wd_793 wd_794 wd_605 (by decide +kernel)) rfl rfl) (
  mA (i := 11) (ok_ic (n := 0) (pc := 17) (by decide +kernel) rfl rfl (by decide +kernel)) (
  mA (i := 12) (ok_ist_n (f := 1) (pc := 18) rfl (by decide +kernel) rfl rfl rfl (by decide +kernel)) (
  mA (i := 13) (ok_ic (n := 0) (pc := 19) (by decide +kernel) rfl rfl (by decide +kernel)) (
  mA (i := 14) (ok_ist_n (f := 2) (pc := 20) rfl (by decide +kernel) rfl rfl rfl (by decide +kernel)) (
  mA (i := 15) (ok_ild_n (f := 2) (pc := 21) rfl rfl rfl (by decide +kernel)) (
  mA (i := 16) (ok_bi (n := 24) (pc := 22) (by decide +kernel) rfl rfl (by decide +kernel)) (
  mA (i := 17) (ok_cge (off := 72) (pc := 24) (tgt := 96) rfl rfl rfl (by decide +kernel) (by decide +kernel)) (
  mA (i := 18) (ok_ald_n (f := 0) (pc := 27) rfl rfl rfl (by decide +kernel)) (
  mA (i := 19) (ok_ild_n (f := 2) (pc := 28) rfl rfl rfl (by decide +kernel)) (
  mA (i := 20) (ok_callI (pc := 29) (can_V cal_N_isKept (by decide +kernel) rfl (by decide +kernel) rfl wd_688 wd_689 wd_690 wd_605 (by decide +kernel)) rfl rfl) (
  mA (i := 21) (ok_ifne (off := 6) (pc := 32) (tgt := 38) rfl rfl rfl (by decide +kernel) (by decide +kernel)) (
  mA (i := 22) (ok_goto (off := 55) (pc := 35) (tgt := 90) rfl rfl (by decide +kernel) (by decide +kernel)) (
  mA (i := 23) (ok_ild_n (f := 1) (pc := 38) rfl rfl rfl (by decide +kernel)) (
  mA (i := 24) (ok_ist_n (f := 3) (pc := 39) rfl (by decide +kernel) rfl rfl rfl (by decide +kernel)) (
  mA (i := 25) (ok_ild_n (f := 3) (pc := 40) rfl rfl rfl (by decide +kernel)) (
  mA (i := 26) (ok_ifle (off := 39) (pc := 41) (tgt := 80) rfl rfl rfl (by decide +kernel) (by decide +kernel)) (
  mA (i := 27) (ok_ald_n (f := 0) (pc := 44) rfl rfl rfl (by decide +kernel)) (
  mA (i := 28) (ok_ild_n (f := 2) (pc := 45) rfl rfl rfl (by decide +kernel)) (
  mA (i := 29) (ok_ald_n (f := 0) (pc := 46) rfl rfl rfl (by decide +kernel)) (
  mA (i := 30) (ok_gP (pc := 47) rfl (by decide +kernel) wd_592 inw_11 rfl rfl (by decide +kernel)) (
  mA (i := 31) (ok_ild_n (f := 3) (pc := 50) rfl rfl rfl (by decide +kernel)) (
  mA (i := 32) (ok_ic (n := 1) (pc := 51) (by decide +kernel) rfl rfl (by decide +kernel)) (
  mA (i := 33) (ok_sub (pc := 52) rfl rfl (by decide +kernel)) (
  mA (i := 34) (ok_iald (pc := 53) rfl rfl (by decide +kernel)) (
  mA (i := 35) (ok_callI (pc := 54) (can_V cal_N_isAhead (by decide +kernel) rfl (by decide +kernel) rfl wd_795 wd_796 wd_797 wd_605 (by decide +kernel)) rfl rfl) (
  mA (i := 36) (ok_ifeq (off := 23) (pc := 57) (tgt := 80) rfl rfl rfl (by decide +kernel) (by decide +kernel)) (
  mA (i := 37) (ok_ald_n (f := 0) (pc := 60) rfl rfl rfl (by decide +kernel)) (
  mA (i := 38) (ok_gP (pc := 61) rfl (by decide +kernel) wd_592 inw_11 rfl rfl (by decide +kernel)) (
  mA (i := 39) (ok_ild_n (f := 3) (pc := 64) rfl rfl rfl (by decide +kernel)) (
  mA (i := 40) (ok_ald_n (f := 0) (pc := 65) rfl rfl rfl (by decide +kernel)) (
  mA (i := 41) (ok_gP (pc := 66) rfl (by decide +kernel) wd_592 inw_11 rfl rfl (by decide +kernel)) (
  mA (i := 42) (ok_ild_n (f := 3) (pc := 69) rfl rfl rfl (by decide +kernel)) (
  mA (i := 43) (ok_ic (n := 1) (pc := 70) (by decide +kernel) rfl rfl (by decide +kernel)) (
  mA (i := 44) (ok_sub (pc := 71) rfl rfl (by decide +kernel)) (
  mA (i := 45) (ok_iald (pc := 72) rfl rfl (by decide +kernel)) (
  mA (i := 46) (ok_iast (pc := 73) rfl rfl (by decide +kernel)) (
  mA (i := 47) (ok_inc (z := (-1)) (pc := 74) (by decide +kernel) (by decide +kernel) rfl rfl rfl (by decide +kernel)) (
  mA (i := 48) (ok_goto (off := (-37)) (pc := 77) (tgt := 40) rfl rfl (by decide +kernel) (by decide +kernel)) (
  mA (i := 49) (ok_ald_n (f := 0) (pc := 80) rfl rfl rfl (by decide +kernel)) (
  mA (i := 50) (ok_gP (pc := 81) rfl (by decide +kernel) wd_592 inw_11 rfl rfl (by decide +kernel)) (
  mA (i := 51) (ok_ild_n (f := 3) (pc := 84) rfl rfl rfl (by decide +kernel)) (
  mA (i := 52) (ok_ild_n (f := 2) (pc := 85) rfl rfl rfl (by decide +kernel)) (
  mA (i := 53) (ok_iast (pc := 86) rfl rfl (by decide +kernel)) (
  mA (i := 54) (ok_inc (z := 1) (pc := 87) (by decide +kernel) (by decide +kernel) rfl rfl rfl (by decide +kernel)) (
  mA (i := 55) (ok_inc (z := 1) (pc := 90) (by decide +kernel) (by decide +kernel) rfl rfl rfl (by decide +kernel)) (
  mA (i := 56) (ok_goto (off := (-72)) (pc := 93) (tgt := 21) rfl rfl (by decide +kernel) (by decide +kernel)) (
  mA (i := 57) (ok_ic (n := 0) (pc := 96) (by decide +kernel) rfl rfl (by decide +kernel)) (
  mA (i := 58) (ok_ist_n (f := 2) (pc := 97) rfl (by decide +kernel) rfl rfl rfl (by decide +kernel)) (
  mA (i := 59) (ok_ild_n (f := 2) (pc := 98) rfl rfl rfl (by decide +kernel)) (
  ok_N_laysTree_t60))))))))))))))))))))))))))))))))))))))))))))))))))))))))))))
set_option maxRecDepth 20000 in
theorem ok_N_nodes : mAll (mOk RX10 cX10_nodes 1 true false (some .int) (mnat p_N_nodes)) 0 k_N_nodes := mA (i := 0) (ok_ald_n (f := 0) (pc := 0) rfl rfl rfl (by decide +kernel)) (
  mA (i := 1) (ok_ic (n := 0) (pc := 1) (by decide +kernel) rfl rfl (by decide +kernel)) (
  mA (i := 2) (ok_pI (pc := 2) rfl (by decide +kernel) wd_618 inw_11 tyX10_ok nmX10 rfl (by decide +kernel) rfl rfl (by decide +kernel)) (
  mA (i := 3) (ok_ald_n (f := 0) (pc := 5) rfl rfl rfl (by decide +kernel)) (
  mA (i := 4) (ok_callV (pc := 6) (can_V cal_N_laysTree (by decide +kernel) rfl (by decide +kernel) rfl wd_779 wd_780 wd_781 wd_605 (by decide +kernel)) rfl rfl) (
  mA (i := 5) (ok_ald_n (f := 0) (pc := 9) rfl rfl rfl (by decide +kernel)) (
  mA (i := 6) (ok_gI (pc := 10) rfl (by decide +kernel) wd_782 inw_11 rfl rfl (by decide +kernel)) (
  mA (i := 7) (ok_iret (pc := 13) rfl rfl (by decide +kernel)) (
  mZ))))))))
set_option maxRecDepth 20000 in
theorem ok_N_node : mAll (mOk RX10 cX10_node 3 true false (some .int) (mnat p_N_node)) 0 k_N_node := mA (i := 0) (ok_ald_n (f := 0) (pc := 0) rfl rfl rfl (by decide +kernel)) (
  mA (i := 1) (ok_ic (n := 0) (pc := 1) (by decide +kernel) rfl rfl (by decide +kernel)) (
  mA (i := 2) (ok_pI (pc := 2) rfl (by decide +kernel) wd_618 inw_11 tyX10_ok nmX10 rfl (by decide +kernel) rfl rfl (by decide +kernel)) (
  mA (i := 3) (ok_ald_n (f := 0) (pc := 5) rfl rfl rfl (by decide +kernel)) (
  mA (i := 4) (ok_callV (pc := 6) (can_V cal_N_laysTree (by decide +kernel) rfl (by decide +kernel) rfl wd_779 wd_780 wd_781 wd_605 (by decide +kernel)) rfl rfl) (
  mA (i := 5) (ok_ild_n (f := 1) (pc := 9) rfl rfl rfl (by decide +kernel)) (
  mA (i := 6) (ok_i2l (pc := 10) rfl rfl (by decide +kernel)) (
  mA (i := 7) (ok_lc (n := 0) (pc := 11) (by decide +kernel) rfl rfl (by decide +kernel)) (
  mA (i := 8) (ok_ald_n (f := 0) (pc := 12) rfl rfl rfl (by decide +kernel)) (
  mA (i := 9) (ok_gI (pc := 13) rfl (by decide +kernel) wd_782 inw_11 rfl rfl (by decide +kernel)) (
  mA (i := 10) (ok_ic (n := 1) (pc := 16) (by decide +kernel) rfl rfl (by decide +kernel)) (
  mA (i := 11) (ok_sub (pc := 17) rfl rfl (by decide +kernel)) (
  mA (i := 12) (ok_i2l (pc := 18) rfl rfl (by decide +kernel)) (
  mA (i := 13) (ok_callI (pc := 19) (can_S cal_N_within (by decide +kernel) wd_606 wd_604 wd_605 (by decide +kernel)) rfl rfl) (
  mA (i := 14) (ok_ifeq (off := 15) (pc := 22) (tgt := 37) rfl rfl rfl (by decide +kernel) (by decide +kernel)) (
  mA (i := 15) (ok_ild_n (f := 2) (pc := 25) rfl rfl rfl (by decide +kernel)) (
  mA (i := 16) (ok_i2l (pc := 26) rfl rfl (by decide +kernel)) (
  mA (i := 17) (ok_lc (n := 0) (pc := 27) (by decide +kernel) rfl rfl (by decide +kernel)) (
  mA (i := 18) (ok_ldc2 (pc := 28) wd_798 rfl rfl (by decide +kernel)) (
  mA (i := 19) (ok_callI (pc := 31) (can_S cal_N_within (by decide +kernel) wd_606 wd_604 wd_605 (by decide +kernel)) rfl rfl) (
  mA (i := 20) (ok_ifne (off := 6) (pc := 34) (tgt := 40) rfl rfl rfl (by decide +kernel) (by decide +kernel)) (
  mA (i := 21) (ok_bi (n := (-2)) (pc := 37) (by decide +kernel) rfl rfl (by decide +kernel)) (
  mA (i := 22) (ok_iret (pc := 39) rfl rfl (by decide +kernel)) (
  mA (i := 23) (ok_ild_n (f := 2) (pc := 40) rfl rfl rfl (by decide +kernel)) (
  mA (i := 24) (ok_ifne (off := 12) (pc := 41) (tgt := 53) rfl rfl rfl (by decide +kernel) (by decide +kernel)) (
  mA (i := 25) (ok_ald_n (f := 0) (pc := 44) rfl rfl rfl (by decide +kernel)) (
  mA (i := 26) (ok_gP (pc := 45) rfl (by decide +kernel) wd_594 inw_11 rfl rfl (by decide +kernel)) (
  mA (i := 27) (ok_ild_n (f := 1) (pc := 48) rfl rfl rfl (by decide +kernel)) (
  mA (i := 28) (ok_iald (pc := 49) rfl rfl (by decide +kernel)) (
  mA (i := 29) (ok_goto (off := 37) (pc := 50) (tgt := 87) rfl rfl (by decide +kernel) (by decide +kernel)) (
  mA (i := 30) (ok_ild_n (f := 2) (pc := 53) rfl rfl rfl (by decide +kernel)) (
  mA (i := 31) (ok_ic (n := 1) (pc := 54) (by decide +kernel) rfl rfl (by decide +kernel)) (
  mA (i := 32) (ok_cne (off := 12) (pc := 55) (tgt := 67) rfl rfl rfl (by decide +kernel) (by decide +kernel)) (
  mA (i := 33) (ok_ald_n (f := 0) (pc := 58) rfl rfl rfl (by decide +kernel)) (
  mA (i := 34) (ok_gP (pc := 59) rfl (by decide +kernel) wd_595 inw_11 rfl rfl (by decide +kernel)) (
  mA (i := 35) (ok_ild_n (f := 1) (pc := 62) rfl rfl rfl (by decide +kernel)) (
  mA (i := 36) (ok_iald (pc := 63) rfl rfl (by decide +kernel)) (
  mA (i := 37) (ok_goto (off := 23) (pc := 64) (tgt := 87) rfl rfl (by decide +kernel) (by decide +kernel)) (
  mA (i := 38) (ok_ild_n (f := 2) (pc := 67) rfl rfl rfl (by decide +kernel)) (
  mA (i := 39) (ok_ic (n := 2) (pc := 68) (by decide +kernel) rfl rfl (by decide +kernel)) (
  mA (i := 40) (ok_cne (off := 12) (pc := 69) (tgt := 81) rfl rfl rfl (by decide +kernel) (by decide +kernel)) (
  mA (i := 41) (ok_ald_n (f := 0) (pc := 72) rfl rfl rfl (by decide +kernel)) (
  mA (i := 42) (ok_gP (pc := 73) rfl (by decide +kernel) wd_596 inw_11 rfl rfl (by decide +kernel)) (
  mA (i := 43) (ok_ild_n (f := 1) (pc := 76) rfl rfl rfl (by decide +kernel)) (
  mA (i := 44) (ok_iald (pc := 77) rfl rfl (by decide +kernel)) (
  mA (i := 45) (ok_goto (off := 9) (pc := 78) (tgt := 87) rfl rfl (by decide +kernel) (by decide +kernel)) (
  mA (i := 46) (ok_ald_n (f := 0) (pc := 81) rfl rfl rfl (by decide +kernel)) (
  mA (i := 47) (ok_gP (pc := 82) rfl (by decide +kernel) wd_597 inw_11 rfl rfl (by decide +kernel)) (
  mA (i := 48) (ok_ild_n (f := 1) (pc := 85) rfl rfl rfl (by decide +kernel)) (
  mA (i := 49) (ok_iald (pc := 86) rfl rfl (by decide +kernel)) (
  mA (i := 50) (ok_iret (pc := 87) rfl rfl (by decide +kernel)) (
  mZ)))))))))))))))))))))))))))))))))))))))))))))))))))
set_option maxRecDepth 20000 in
theorem ok_N_at : mAll (mOk RX10 cX10_at 2 true false (some .int) (mnat p_N_at)) 0 k_N_at := mA (i := 0) (ok_ald_n (f := 0) (pc := 0) rfl rfl rfl (by decide +kernel)) (
  mA (i := 1) (ok_ic (n := 0) (pc := 1) (by decide +kernel) rfl rfl (by decide +kernel)) (
  mA (i := 2) (ok_pI (pc := 2) rfl (by decide +kernel) wd_618 inw_11 tyX10_ok nmX10 rfl (by decide +kernel) rfl rfl (by decide +kernel)) (
  mA (i := 3) (ok_ald_n (f := 0) (pc := 5) rfl rfl rfl (by decide +kernel)) (
  mA (i := 4) (ok_ild_n (f := 1) (pc := 6) rfl rfl rfl (by decide +kernel)) (
  mA (i := 5) (ok_callI (pc := 7) (can_V cal_N_isKept (by decide +kernel) rfl (by decide +kernel) rfl wd_688 wd_689 wd_690 wd_605 (by decide +kernel)) rfl rfl) (
  mA (i := 6) (ok_ifne (off := 6) (pc := 10) (tgt := 16) rfl rfl rfl (by decide +kernel) (by decide +kernel)) (
  mA (i := 7) (ok_bi (n := (-2)) (pc := 13) (by decide +kernel) rfl rfl (by decide +kernel)) (
  mA (i := 8) (ok_iret (pc := 15) rfl rfl (by decide +kernel)) (
  mA (i := 9) (ok_ald_n (f := 0) (pc := 16) rfl rfl rfl (by decide +kernel)) (
  mA (i := 10) (ok_callV (pc := 17) (can_V cal_N_laysTree (by decide +kernel) rfl (by decide +kernel) rfl wd_779 wd_780 wd_781 wd_605 (by decide +kernel)) rfl rfl) (
  mA (i := 11) (ok_ald_n (f := 0) (pc := 20) rfl rfl rfl (by decide +kernel)) (
  mA (i := 12) (ok_gP (pc := 21) rfl (by decide +kernel) wd_598 inw_11 rfl rfl (by decide +kernel)) (
  mA (i := 13) (ok_ild_n (f := 1) (pc := 24) rfl rfl rfl (by decide +kernel)) (
  mA (i := 14) (ok_iald (pc := 25) rfl rfl (by decide +kernel)) (
  mA (i := 15) (ok_iret (pc := 26) rfl rfl (by decide +kernel)) (
  mZ))))))))))))))))
set_option maxRecDepth 20000 in
theorem ok_N_byMode : mAll (mOk RX10 cX10_byMode 3 true false (some .int) (mnat p_N_byMode)) 0 k_N_byMode := mA (i := 0) (ok_ild_n (f := 2) (pc := 0) rfl rfl rfl (by decide +kernel)) (
  mA (i := 1) (ok_ifne (off := 18) (pc := 1) (tgt := 19) rfl rfl rfl (by decide +kernel) (by decide +kernel)) (
  mA (i := 2) (ok_ild_n (f := 1) (pc := 4) rfl rfl rfl (by decide +kernel)) (
  mA (i := 3) (ok_bi (n := 24) (pc := 5) (by decide +kernel) rfl rfl (by decide +kernel)) (
  mA (i := 4) (ok_cge (off := 12) (pc := 7) (tgt := 19) rfl rfl rfl (by decide +kernel) (by decide +kernel)) (
  mA (i := 5) (ok_ild_n (f := 0) (pc := 10) rfl rfl rfl (by decide +kernel)) (
  mA (i := 6) (ok_ic (n := 1) (pc := 11) (by decide +kernel) rfl rfl (by decide +kernel)) (
  mA (i := 7) (ok_cle (off := 7) (pc := 12) (tgt := 19) rfl rfl rfl (by decide +kernel) (by decide +kernel)) (
  mA (i := 8) (ok_ic (n := 1) (pc := 15) (by decide +kernel) rfl rfl (by decide +kernel)) (
  mA (i := 9) (ok_goto (off := 4) (pc := 16) (tgt := 20) rfl rfl (by decide +kernel) (by decide +kernel)) (
  mA (i := 10) (ok_ild_n (f := 0) (pc := 19) rfl rfl rfl (by decide +kernel)) (
  mA (i := 11) (ok_iret (pc := 20) rfl rfl (by decide +kernel)) (
  mZ))))))))))))
set_option maxRecDepth 20000 in
theorem ok_N_laysVisited_t60 : mAll (mOk RX10 cX10_laysVisited 9 true false (some .int) (mnat p_N_laysVisited)) 60 [o_cgt 67, o_goto 65, o_ild 7, o_ild 8, o_clt 67, o_ic (nI 1), o_goto 68, o_ic (nI 0), o_zast, o_ild 4, o_ald 0, o_gP 11 44, o_ild 5, o_ald4 22, o_ifeq 77, o_ic (nI 1), o_goto 78, o_ic (nI 0), o_add, o_ist 4, o_inc 5 (nI 1), o_goto 9, o_ild 4, o_iret] := mA (i := 60) (ok_cgt (off := 17) (pc := 106) (tgt := 123) rfl rfl rfl (by decide +kernel) (by decide +kernel)) (
  mA (i := 61) (ok_goto (off := 10) (pc := 109) (tgt := 119) rfl rfl (by decide +kernel) (by decide +kernel)) (
  mA (i := 62) (ok_ild (pc := 112) rfl rfl (by decide +kernel)) (
  mA (i := 63) (ok_ild (pc := 114) rfl rfl (by decide +kernel)) (
  mA (i := 64) (ok_clt (off := 7) (pc := 116) (tgt := 123) rfl rfl rfl (by decide +kernel) (by decide +kernel)) (
  mA (i := 65) (ok_ic (n := 1) (pc := 119) (by decide +kernel) rfl rfl (by decide +kernel)) (
  mA (i := 66) (ok_goto (off := 4) (pc := 120) (tgt := 124) rfl rfl (by decide +kernel) (by decide +kernel)) (
  mA (i := 67) (ok_ic (n := 0) (pc := 123) (by decide +kernel) rfl rfl (by decide +kernel)) (
  mA (i := 68) (ok_zast (pc := 124) rfl rfl (by decide +kernel)) (
  mA (i := 69) (ok_ild (pc := 125) rfl rfl (by decide +kernel)) (
  mA (i := 70) (ok_ald_n (f := 0) (pc := 127) rfl rfl rfl (by decide +kernel)) (
  mA (i := 71) (ok_gP (pc := 128) rfl (by decide +kernel) wd_600 inw_11 rfl rfl (by decide +kernel)) (
  mA (i := 72) (ok_ild (pc := 131) rfl rfl (by decide +kernel)) (
  mA (i := 73) (ok_zald (pc := 133) rfl rfl (by decide +kernel)) (
  mA (i := 74) (ok_ifeq (off := 7) (pc := 134) (tgt := 141) rfl rfl rfl (by decide +kernel) (by decide +kernel)) (
  mA (i := 75) (ok_ic (n := 1) (pc := 137) (by decide +kernel) rfl rfl (by decide +kernel)) (
  mA (i := 76) (ok_goto (off := 4) (pc := 138) (tgt := 142) rfl rfl (by decide +kernel) (by decide +kernel)) (
  mA (i := 77) (ok_ic (n := 0) (pc := 141) (by decide +kernel) rfl rfl (by decide +kernel)) (
  mA (i := 78) (ok_add (pc := 142) rfl rfl (by decide +kernel)) (
  mA (i := 79) (ok_ist (pc := 143) (by decide +kernel) rfl rfl rfl (by decide +kernel)) (
  mA (i := 80) (ok_inc (z := 1) (pc := 145) (by decide +kernel) (by decide +kernel) rfl rfl rfl (by decide +kernel)) (
  mA (i := 81) (ok_goto (off := (-135)) (pc := 148) (tgt := 13) rfl rfl (by decide +kernel) (by decide +kernel)) (
  mA (i := 82) (ok_ild (pc := 151) rfl rfl (by decide +kernel)) (
  mA (i := 83) (ok_iret (pc := 153) rfl rfl (by decide +kernel)) (
  mZ))))))))))))))))))))))))
set_option maxRecDepth 20000 in
theorem ok_N_laysVisited : mAll (mOk RX10 cX10_laysVisited 9 true false (some .int) (mnat p_N_laysVisited)) 0 k_N_laysVisited := mA (i := 0) (ok_ald_n (f := 0) (pc := 0) rfl rfl rfl (by decide +kernel)) (
  mA (i := 1) (ok_gP (pc := 1) rfl (by decide +kernel) wd_600 inw_11 rfl rfl (by decide +kernel)) (
  mA (i := 2) (ok_ic (n := 0) (pc := 4) (by decide +kernel) rfl rfl (by decide +kernel)) (
  mA (i := 3) (ok_ic (n := 1) (pc := 5) (by decide +kernel) rfl rfl (by decide +kernel)) (
  mA (i := 4) (ok_zast (pc := 6) rfl rfl (by decide +kernel)) (
  mA (i := 5) (ok_ic (n := 1) (pc := 7) (by decide +kernel) rfl rfl (by decide +kernel)) (
  mA (i := 6) (ok_ist (pc := 8) (by decide +kernel) rfl rfl rfl (by decide +kernel)) (
  mA (i := 7) (ok_ic (n := 1) (pc := 10) (by decide +kernel) rfl rfl (by decide +kernel)) (
  mA (i := 8) (ok_ist (pc := 11) (by decide +kernel) rfl rfl rfl (by decide +kernel)) (
  mA (i := 9) (ok_ild (pc := 13) rfl rfl (by decide +kernel)) (
  mA (i := 10) (ok_ald_n (f := 0) (pc := 15) rfl rfl rfl (by decide +kernel)) (
  mA (i := 11) (ok_gI (pc := 16) rfl (by decide +kernel) wd_782 inw_11 rfl rfl (by decide +kernel)) (
  mA (i := 12) (ok_cge (off := 132) (pc := 19) (tgt := 151) rfl rfl rfl (by decide +kernel) (by decide +kernel)) (
  mA (i := 13) (ok_ald_n (f := 0) (pc := 22) rfl rfl rfl (by decide +kernel)) (
  mA (i := 14) (ok_gP (pc := 23) rfl (by decide +kernel) wd_575 inw_11 rfl rfl (by decide +kernel)) (
  mA (i := 15) (ok_si (n := 801) (pc := 26) (by decide +kernel) rfl rfl (by decide +kernel)) (
  mA (i := 16) (ok_ald_n (f := 0) (pc := 29) rfl rfl rfl (by decide +kernel)) (
  mA (i := 17) (ok_gP (pc := 30) rfl (by decide +kernel) wd_594 inw_11 rfl rfl (by decide +kernel)) (
  mA (i := 18) (ok_ild (pc := 33) rfl rfl (by decide +kernel)) (
  mA (i := 19) (ok_iald (pc := 35) rfl rfl (by decide +kernel)) (
  mA (i := 20) (ok_add (pc := 36) rfl rfl (by decide +kernel)) (
  mA (i := 21) (ok_ic (n := 1) (pc := 37) (by decide +kernel) rfl rfl (by decide +kernel)) (
  mA (i := 22) (ok_sub (pc := 38) rfl rfl (by decide +kernel)) (
  mA (i := 23) (ok_iald (pc := 39) rfl rfl (by decide +kernel)) (
  mA (i := 24) (ok_ist (pc := 40) (by decide +kernel) rfl rfl rfl (by decide +kernel)) (
  mA (i := 25) (ok_ald_n (f := 0) (pc := 42) rfl rfl rfl (by decide +kernel)) (
  mA (i := 26) (ok_gP (pc := 43) rfl (by decide +kernel) wd_595 inw_11 rfl rfl (by decide +kernel)) (
  mA (i := 27) (ok_ild (pc := 46) rfl rfl (by decide +kernel)) (
  mA (i := 28) (ok_iald (pc := 48) rfl rfl (by decide +kernel)) (
  mA (i := 29) (ok_ild (pc := 49) rfl rfl (by decide +kernel)) (
  mA (i := 30) (ok_ild_n (f := 3) (pc := 51) rfl rfl rfl (by decide +kernel)) (
  mA (i := 31) (ok_callI (pc := 52) (can_S cal_N_byMode (by decide +kernel) wd_800 wd_799 wd_605 (by decide +kernel)) rfl rfl) (
  mA (i := 32) (ok_ist (pc := 55) (by decide +kernel) rfl rfl rfl (by decide +kernel)) (
  mA (i := 33) (ok_ald_n (f := 0) (pc := 57) rfl rfl rfl (by decide +kernel)) (
  mA (i := 34) (ok_gP (pc := 58) rfl (by decide +kernel) wd_589 inw_11 rfl rfl (by decide +kernel)) (
  mA (i := 35) (ok_bi (n := 40) (pc := 61) (by decide +kernel) rfl rfl (by decide +kernel)) (
  mA (i := 36) (ok_ild_n (f := 1) (pc := 63) rfl rfl rfl (by decide +kernel)) (
  mA (i := 37) (ok_mul (pc := 64) rfl rfl (by decide +kernel)) (
  mA (i := 38) (ok_ild (pc := 65) rfl rfl (by decide +kernel)) (
  mA (i := 39) (ok_add (pc := 67) rfl rfl (by decide +kernel)) (
  mA (i := 40) (ok_iald (pc := 68) rfl rfl (by decide +kernel)) (
  mA (i := 41) (ok_ild (pc := 69) rfl rfl (by decide +kernel)) (
  mA (i := 42) (ok_ild_n (f := 3) (pc := 71) rfl rfl rfl (by decide +kernel)) (
  mA (i := 43) (ok_callI (pc := 72) (can_S cal_N_byMode (by decide +kernel) wd_800 wd_799 wd_605 (by decide +kernel)) rfl rfl) (
  mA (i := 44) (ok_ist (pc := 75) (by decide +kernel) rfl rfl rfl (by decide +kernel)) (
  mA (i := 45) (ok_ald_n (f := 0) (pc := 77) rfl rfl rfl (by decide +kernel)) (
  mA (i := 46) (ok_gP (pc := 78) rfl (by decide +kernel) wd_600 inw_11 rfl rfl (by decide +kernel)) (
  mA (i := 47) (ok_ild (pc := 81) rfl rfl (by decide +kernel)) (
  mA (i := 48) (ok_ald_n (f := 0) (pc := 83) rfl rfl rfl (by decide +kernel)) (
  mA (i := 49) (ok_gP (pc := 84) rfl (by decide +kernel) wd_600 inw_11 rfl rfl (by decide +kernel)) (
  mA (i := 50) (ok_ald_n (f := 0) (pc := 87) rfl rfl rfl (by decide +kernel)) (
  mA (i := 51) (ok_gP (pc := 88) rfl (by decide +kernel) wd_593 inw_11 rfl rfl (by decide +kernel)) (
  mA (i := 52) (ok_ild (pc := 91) rfl rfl (by decide +kernel)) (
  mA (i := 53) (ok_iald (pc := 93) rfl rfl (by decide +kernel)) (
  mA (i := 54) (ok_zald (pc := 94) rfl rfl (by decide +kernel)) (
  mA (i := 55) (ok_ifeq (off := 28) (pc := 95) (tgt := 123) rfl rfl rfl (by decide +kernel) (by decide +kernel)) (
  mA (i := 56) (ok_ild_n (f := 2) (pc := 98) rfl rfl rfl (by decide +kernel)) (
  mA (i := 57) (ok_ifne (off := 13) (pc := 99) (tgt := 112) rfl rfl rfl (by decide +kernel) (by decide +kernel)) (
  mA (i := 58) (ok_ild (pc := 102) rfl rfl (by decide +kernel)) (
  mA (i := 59) (ok_ild (pc := 104) rfl rfl (by decide +kernel)) (
  ok_N_laysVisited_t60))))))))))))))))))))))))))))))))))))))))))))))))))))))))))))
set_option maxRecDepth 20000 in
theorem ok_N_visited : mAll (mOk RX10 cX10_visited 3 true false (some .int) (mnat p_N_visited)) 0 k_N_visited := mA (i := 0) (ok_ald_n (f := 0) (pc := 0) rfl rfl rfl (by decide +kernel)) (
  mA (i := 1) (ok_ic (n := 0) (pc := 1) (by decide +kernel) rfl rfl (by decide +kernel)) (
  mA (i := 2) (ok_pI (pc := 2) rfl (by decide +kernel) wd_618 inw_11 tyX10_ok nmX10 rfl (by decide +kernel) rfl rfl (by decide +kernel)) (
  mA (i := 3) (ok_ild_n (f := 1) (pc := 5) rfl rfl rfl (by decide +kernel)) (
  mA (i := 4) (ok_i2l (pc := 6) rfl rfl (by decide +kernel)) (
  mA (i := 5) (ok_lc (n := 0) (pc := 7) (by decide +kernel) rfl rfl (by decide +kernel)) (
  mA (i := 6) (ok_lc (n := 1) (pc := 8) (by decide +kernel) rfl rfl (by decide +kernel)) (
  mA (i := 7) (ok_callI (pc := 9) (can_S cal_N_within (by decide +kernel) wd_606 wd_604 wd_605 (by decide +kernel)) rfl rfl) (
  mA (i := 8) (ok_ifeq (off := 10) (pc := 12) (tgt := 22) rfl rfl rfl (by decide +kernel) (by decide +kernel)) (
  mA (i := 9) (ok_ild_n (f := 2) (pc := 15) rfl rfl rfl (by decide +kernel)) (
  mA (i := 10) (ok_callI (pc := 16) (can_S cal_N_isMode (by decide +kernel) wd_741 wd_740 wd_605 (by decide +kernel)) rfl rfl) (
  mA (i := 11) (ok_ifne (off := 6) (pc := 19) (tgt := 25) rfl rfl rfl (by decide +kernel) (by decide +kernel)) (
  mA (i := 12) (ok_bi (n := (-2)) (pc := 22) (by decide +kernel) rfl rfl (by decide +kernel)) (
  mA (i := 13) (ok_iret (pc := 24) rfl rfl (by decide +kernel)) (
  mA (i := 14) (ok_ald_n (f := 0) (pc := 25) rfl rfl rfl (by decide +kernel)) (
  mA (i := 15) (ok_callV (pc := 26) (can_V cal_N_laysTree (by decide +kernel) rfl (by decide +kernel) rfl wd_779 wd_780 wd_781 wd_605 (by decide +kernel)) rfl rfl) (
  mA (i := 16) (ok_ald_n (f := 0) (pc := 29) rfl rfl rfl (by decide +kernel)) (
  mA (i := 17) (ok_bi (n := 24) (pc := 30) (by decide +kernel) rfl rfl (by decide +kernel)) (
  mA (i := 18) (ok_ild_n (f := 1) (pc := 32) rfl rfl rfl (by decide +kernel)) (
  mA (i := 19) (ok_ild_n (f := 2) (pc := 33) rfl rfl rfl (by decide +kernel)) (
  mA (i := 20) (ok_callI (pc := 34) (can_V cal_N_laysVisited (by decide +kernel) rfl (by decide +kernel) rfl wd_801 wd_802 wd_803 wd_605 (by decide +kernel)) rfl rfl) (
  mA (i := 21) (ok_iret (pc := 37) rfl rfl (by decide +kernel)) (
  mZ))))))))))))))))))))))
set_option maxRecDepth 20000 in
theorem ok_N_total : mAll (mOk RX10 cX10_total 5 true false (some .int) (mnat p_N_total)) 0 k_N_total := mA (i := 0) (ok_ald_n (f := 0) (pc := 0) rfl rfl rfl (by decide +kernel)) (
  mA (i := 1) (ok_ic (n := 0) (pc := 1) (by decide +kernel) rfl rfl (by decide +kernel)) (
  mA (i := 2) (ok_pI (pc := 2) rfl (by decide +kernel) wd_618 inw_11 tyX10_ok nmX10 rfl (by decide +kernel) rfl rfl (by decide +kernel)) (
  mA (i := 3) (ok_ild_n (f := 1) (pc := 5) rfl rfl rfl (by decide +kernel)) (
  mA (i := 4) (ok_i2l (pc := 6) rfl rfl (by decide +kernel)) (
  mA (i := 5) (ok_lc (n := 0) (pc := 7) (by decide +kernel) rfl rfl (by decide +kernel)) (
  mA (i := 6) (ok_lc (n := 1) (pc := 8) (by decide +kernel) rfl rfl (by decide +kernel)) (
  mA (i := 7) (ok_callI (pc := 9) (can_S cal_N_within (by decide +kernel) wd_606 wd_604 wd_605 (by decide +kernel)) rfl rfl) (
  mA (i := 8) (ok_ifeq (off := 10) (pc := 12) (tgt := 22) rfl rfl rfl (by decide +kernel) (by decide +kernel)) (
  mA (i := 9) (ok_ild_n (f := 2) (pc := 15) rfl rfl rfl (by decide +kernel)) (
  mA (i := 10) (ok_callI (pc := 16) (can_S cal_N_isMode (by decide +kernel) wd_741 wd_740 wd_605 (by decide +kernel)) rfl rfl) (
  mA (i := 11) (ok_ifne (off := 6) (pc := 19) (tgt := 25) rfl rfl rfl (by decide +kernel) (by decide +kernel)) (
  mA (i := 12) (ok_bi (n := (-2)) (pc := 22) (by decide +kernel) rfl rfl (by decide +kernel)) (
  mA (i := 13) (ok_iret (pc := 24) rfl rfl (by decide +kernel)) (
  mA (i := 14) (ok_ald_n (f := 0) (pc := 25) rfl rfl rfl (by decide +kernel)) (
  mA (i := 15) (ok_callV (pc := 26) (can_V cal_N_laysTree (by decide +kernel) rfl (by decide +kernel) rfl wd_779 wd_780 wd_781 wd_605 (by decide +kernel)) rfl rfl) (
  mA (i := 16) (ok_ic (n := 0) (pc := 29) (by decide +kernel) rfl rfl (by decide +kernel)) (
  mA (i := 17) (ok_ist_n (f := 3) (pc := 30) rfl (by decide +kernel) rfl rfl rfl (by decide +kernel)) (
  mA (i := 18) (ok_ic (n := 0) (pc := 31) (by decide +kernel) rfl rfl (by decide +kernel)) (
  mA (i := 19) (ok_ist (pc := 32) (by decide +kernel) rfl rfl rfl (by decide +kernel)) (
  mA (i := 20) (ok_ild (pc := 34) rfl rfl (by decide +kernel)) (
  mA (i := 21) (ok_bi (n := 24) (pc := 36) (by decide +kernel) rfl rfl (by decide +kernel)) (
  mA (i := 22) (ok_cge (off := 33) (pc := 38) (tgt := 71) rfl rfl rfl (by decide +kernel) (by decide +kernel)) (
  mA (i := 23) (ok_ild_n (f := 3) (pc := 41) rfl rfl rfl (by decide +kernel)) (
  mA (i := 24) (ok_ald_n (f := 0) (pc := 42) rfl rfl rfl (by decide +kernel)) (
  mA (i := 25) (ok_ild (pc := 43) rfl rfl (by decide +kernel)) (
  mA (i := 26) (ok_callI (pc := 45) (can_V cal_N_isKept (by decide +kernel) rfl (by decide +kernel) rfl wd_688 wd_689 wd_690 wd_605 (by decide +kernel)) rfl rfl) (
  mA (i := 27) (ok_ifeq (off := 14) (pc := 48) (tgt := 62) rfl rfl rfl (by decide +kernel) (by decide +kernel)) (
  mA (i := 28) (ok_ald_n (f := 0) (pc := 51) rfl rfl rfl (by decide +kernel)) (
  mA (i := 29) (ok_ild (pc := 52) rfl rfl (by decide +kernel)) (
  mA (i := 30) (ok_ild_n (f := 1) (pc := 54) rfl rfl rfl (by decide +kernel)) (
  mA (i := 31) (ok_ild_n (f := 2) (pc := 55) rfl rfl rfl (by decide +kernel)) (
  mA (i := 32) (ok_callI (pc := 56) (can_V cal_N_laysVisited (by decide +kernel) rfl (by decide +kernel) rfl wd_801 wd_802 wd_803 wd_605 (by decide +kernel)) rfl rfl) (
  mA (i := 33) (ok_goto (off := 4) (pc := 59) (tgt := 63) rfl rfl (by decide +kernel) (by decide +kernel)) (
  mA (i := 34) (ok_ic (n := 0) (pc := 62) (by decide +kernel) rfl rfl (by decide +kernel)) (
  mA (i := 35) (ok_add (pc := 63) rfl rfl (by decide +kernel)) (
  mA (i := 36) (ok_ist_n (f := 3) (pc := 64) rfl (by decide +kernel) rfl rfl rfl (by decide +kernel)) (
  mA (i := 37) (ok_inc (z := 1) (pc := 65) (by decide +kernel) (by decide +kernel) rfl rfl rfl (by decide +kernel)) (
  mA (i := 38) (ok_goto (off := (-34)) (pc := 68) (tgt := 34) rfl rfl (by decide +kernel) (by decide +kernel)) (
  mA (i := 39) (ok_ild_n (f := 3) (pc := 71) rfl rfl rfl (by decide +kernel)) (
  mA (i := 40) (ok_iret (pc := 72) rfl rfl (by decide +kernel)) (
  mZ)))))))))))))))))))))))))))))))))))))))))
set_option maxRecDepth 20000 in
theorem ok_N_candidates : mAll (mOk RX10 cX10_candidates 5 true false (some .int) (mnat p_N_candidates)) 0 k_N_candidates := mA (i := 0) (ok_ald_n (f := 0) (pc := 0) rfl rfl rfl (by decide +kernel)) (
  mA (i := 1) (ok_ic (n := 0) (pc := 1) (by decide +kernel) rfl rfl (by decide +kernel)) (
  mA (i := 2) (ok_pI (pc := 2) rfl (by decide +kernel) wd_618 inw_11 tyX10_ok nmX10 rfl (by decide +kernel) rfl rfl (by decide +kernel)) (
  mA (i := 3) (ok_ild_n (f := 1) (pc := 5) rfl rfl rfl (by decide +kernel)) (
  mA (i := 4) (ok_i2l (pc := 6) rfl rfl (by decide +kernel)) (
  mA (i := 5) (ok_lc (n := 0) (pc := 7) (by decide +kernel) rfl rfl (by decide +kernel)) (
  mA (i := 6) (ok_lc (n := 1) (pc := 8) (by decide +kernel) rfl rfl (by decide +kernel)) (
  mA (i := 7) (ok_callI (pc := 9) (can_S cal_N_within (by decide +kernel) wd_606 wd_604 wd_605 (by decide +kernel)) rfl rfl) (
  mA (i := 8) (ok_ifeq (off := 10) (pc := 12) (tgt := 22) rfl rfl rfl (by decide +kernel) (by decide +kernel)) (
  mA (i := 9) (ok_ild_n (f := 2) (pc := 15) rfl rfl rfl (by decide +kernel)) (
  mA (i := 10) (ok_callI (pc := 16) (can_S cal_N_isMode (by decide +kernel) wd_741 wd_740 wd_605 (by decide +kernel)) rfl rfl) (
  mA (i := 11) (ok_ifne (off := 6) (pc := 19) (tgt := 25) rfl rfl rfl (by decide +kernel) (by decide +kernel)) (
  mA (i := 12) (ok_bi (n := (-2)) (pc := 22) (by decide +kernel) rfl rfl (by decide +kernel)) (
  mA (i := 13) (ok_iret (pc := 24) rfl rfl (by decide +kernel)) (
  mA (i := 14) (ok_ald_n (f := 0) (pc := 25) rfl rfl rfl (by decide +kernel)) (
  mA (i := 15) (ok_callV (pc := 26) (can_V cal_N_laysTree (by decide +kernel) rfl (by decide +kernel) rfl wd_779 wd_780 wd_781 wd_605 (by decide +kernel)) rfl rfl) (
  mA (i := 16) (ok_ald_n (f := 0) (pc := 29) rfl rfl rfl (by decide +kernel)) (
  mA (i := 17) (ok_bi (n := 24) (pc := 30) (by decide +kernel) rfl rfl (by decide +kernel)) (
  mA (i := 18) (ok_ild_n (f := 1) (pc := 32) rfl rfl rfl (by decide +kernel)) (
  mA (i := 19) (ok_ild_n (f := 2) (pc := 33) rfl rfl rfl (by decide +kernel)) (
  mA (i := 20) (ok_callI (pc := 34) (can_V cal_N_laysVisited (by decide +kernel) rfl (by decide +kernel) rfl wd_801 wd_802 wd_803 wd_605 (by decide +kernel)) rfl rfl) (
  mA (i := 21) (ok_pop (pc := 37) rfl rfl (by decide +kernel)) (
  mA (i := 22) (ok_ic (n := 0) (pc := 38) (by decide +kernel) rfl rfl (by decide +kernel)) (
  mA (i := 23) (ok_ist_n (f := 3) (pc := 39) rfl (by decide +kernel) rfl rfl rfl (by decide +kernel)) (
  mA (i := 24) (ok_ic (n := 0) (pc := 40) (by decide +kernel) rfl rfl (by decide +kernel)) (
  mA (i := 25) (ok_ist (pc := 41) (by decide +kernel) rfl rfl rfl (by decide +kernel)) (
  mA (i := 26) (ok_ild (pc := 43) rfl rfl (by decide +kernel)) (
  mA (i := 27) (ok_bi (n := 24) (pc := 45) (by decide +kernel) rfl rfl (by decide +kernel)) (
  mA (i := 28) (ok_cge (off := 44) (pc := 47) (tgt := 91) rfl rfl rfl (by decide +kernel) (by decide +kernel)) (
  mA (i := 29) (ok_ild_n (f := 3) (pc := 50) rfl rfl rfl (by decide +kernel)) (
  mA (i := 30) (ok_ald_n (f := 0) (pc := 51) rfl rfl rfl (by decide +kernel)) (
  mA (i := 31) (ok_ild (pc := 52) rfl rfl (by decide +kernel)) (
  mA (i := 32) (ok_callI (pc := 54) (can_V cal_N_isKept (by decide +kernel) rfl (by decide +kernel) rfl wd_688 wd_689 wd_690 wd_605 (by decide +kernel)) rfl rfl) (
  mA (i := 33) (ok_ifeq (off := 25) (pc := 57) (tgt := 82) rfl rfl rfl (by decide +kernel) (by decide +kernel)) (
  mA (i := 34) (ok_ald_n (f := 0) (pc := 60) rfl rfl rfl (by decide +kernel)) (
  mA (i := 35) (ok_gP (pc := 61) rfl (by decide +kernel) wd_600 inw_11 rfl rfl (by decide +kernel)) (
  mA (i := 36) (ok_ald_n (f := 0) (pc := 64) rfl rfl rfl (by decide +kernel)) (
  mA (i := 37) (ok_gP (pc := 65) rfl (by decide +kernel) wd_598 inw_11 rfl rfl (by decide +kernel)) (
  mA (i := 38) (ok_ild (pc := 68) rfl rfl (by decide +kernel)) (
  mA (i := 39) (ok_iald (pc := 70) rfl rfl (by decide +kernel)) (
  mA (i := 40) (ok_zald (pc := 71) rfl rfl (by decide +kernel)) (
  mA (i := 41) (ok_ifeq (off := 10) (pc := 72) (tgt := 82) rfl rfl rfl (by decide +kernel) (by decide +kernel)) (
  mA (i := 42) (ok_ic (n := 1) (pc := 75) (by decide +kernel) rfl rfl (by decide +kernel)) (
  mA (i := 43) (ok_ild (pc := 76) rfl rfl (by decide +kernel)) (
  mA (i := 44) (ok_shl (pc := 78) rfl rfl (by decide +kernel)) (
  mA (i := 45) (ok_goto (off := 4) (pc := 79) (tgt := 83) rfl rfl (by decide +kernel) (by decide +kernel)) (
  mA (i := 46) (ok_ic (n := 0) (pc := 82) (by decide +kernel) rfl rfl (by decide +kernel)) (
  mA (i := 47) (ok_or (pc := 83) rfl rfl (by decide +kernel)) (
  mA (i := 48) (ok_ist_n (f := 3) (pc := 84) rfl (by decide +kernel) rfl rfl rfl (by decide +kernel)) (
  mA (i := 49) (ok_inc (z := 1) (pc := 85) (by decide +kernel) (by decide +kernel) rfl rfl rfl (by decide +kernel)) (
  mA (i := 50) (ok_goto (off := (-45)) (pc := 88) (tgt := 43) rfl rfl (by decide +kernel) (by decide +kernel)) (
  mA (i := 51) (ok_ild_n (f := 3) (pc := 91) rfl rfl rfl (by decide +kernel)) (
  mA (i := 52) (ok_iret (pc := 92) rfl rfl (by decide +kernel)) (
  mZ)))))))))))))))))))))))))))))))))))))))))))))))))))))
set_option maxRecDepth 20000 in
theorem ok_N_told : mAll (mOk RX10 cX10_told 4 true false (some .int) (mnat p_N_told)) 0 k_N_told := mA (i := 0) (ok_ic (n := 0) (pc := 0) (by decide +kernel) rfl rfl (by decide +kernel)) (
  mA (i := 1) (ok_ist_n (f := 2) (pc := 1) rfl (by decide +kernel) rfl rfl rfl (by decide +kernel)) (
  mA (i := 2) (ok_ic (n := 0) (pc := 2) (by decide +kernel) rfl rfl (by decide +kernel)) (
  mA (i := 3) (ok_ist_n (f := 3) (pc := 3) rfl (by decide +kernel) rfl rfl rfl (by decide +kernel)) (
  mA (i := 4) (ok_ild_n (f := 3) (pc := 4) rfl rfl rfl (by decide +kernel)) (
  mA (i := 5) (ok_bi (n := 24) (pc := 5) (by decide +kernel) rfl rfl (by decide +kernel)) (
  mA (i := 6) (ok_cge (off := 30) (pc := 7) (tgt := 37) rfl rfl rfl (by decide +kernel) (by decide +kernel)) (
  mA (i := 7) (ok_ild_n (f := 0) (pc := 10) rfl rfl rfl (by decide +kernel)) (
  mA (i := 8) (ok_ild_n (f := 3) (pc := 11) rfl rfl rfl (by decide +kernel)) (
  mA (i := 9) (ok_shr (pc := 12) rfl rfl (by decide +kernel)) (
  mA (i := 10) (ok_ic (n := 1) (pc := 13) (by decide +kernel) rfl rfl (by decide +kernel)) (
  mA (i := 11) (ok_and (pc := 14) rfl rfl (by decide +kernel)) (
  mA (i := 12) (ok_ifne (off := 6) (pc := 15) (tgt := 21) rfl rfl rfl (by decide +kernel) (by decide +kernel)) (
  mA (i := 13) (ok_goto (off := 13) (pc := 18) (tgt := 31) rfl rfl (by decide +kernel) (by decide +kernel)) (
  mA (i := 14) (ok_ild_n (f := 2) (pc := 21) rfl rfl rfl (by decide +kernel)) (
  mA (i := 15) (ok_ild_n (f := 1) (pc := 22) rfl rfl rfl (by decide +kernel)) (
  mA (i := 16) (ok_cne (off := 5) (pc := 23) (tgt := 28) rfl rfl rfl (by decide +kernel) (by decide +kernel)) (
  mA (i := 17) (ok_ild_n (f := 3) (pc := 26) rfl rfl rfl (by decide +kernel)) (
  mA (i := 18) (ok_iret (pc := 27) rfl rfl (by decide +kernel)) (
  mA (i := 19) (ok_inc (z := 1) (pc := 28) (by decide +kernel) (by decide +kernel) rfl rfl rfl (by decide +kernel)) (
  mA (i := 20) (ok_inc (z := 1) (pc := 31) (by decide +kernel) (by decide +kernel) rfl rfl rfl (by decide +kernel)) (
  mA (i := 21) (ok_goto (off := (-30)) (pc := 34) (tgt := 4) rfl rfl (by decide +kernel) (by decide +kernel)) (
  mA (i := 22) (ok_ild_n (f := 1) (pc := 37) rfl rfl rfl (by decide +kernel)) (
  mA (i := 23) (ok_ic (n := (-1)) (pc := 38) (by decide +kernel) rfl rfl (by decide +kernel)) (
  mA (i := 24) (ok_cne (off := 7) (pc := 39) (tgt := 46) rfl rfl rfl (by decide +kernel) (by decide +kernel)) (
  mA (i := 25) (ok_ild_n (f := 2) (pc := 42) rfl rfl rfl (by decide +kernel)) (
  mA (i := 26) (ok_goto (off := 4) (pc := 43) (tgt := 47) rfl rfl (by decide +kernel) (by decide +kernel)) (
  mA (i := 27) (ok_ic (n := (-1)) (pc := 46) (by decide +kernel) rfl rfl (by decide +kernel)) (
  mA (i := 28) (ok_iret (pc := 47) rfl rfl (by decide +kernel)) (
  mZ)))))))))))))))))))))))))))))
set_option maxRecDepth 20000 in
theorem ok_N_forward : mAll (mOk RX10 cX10_forward 5 true false (some .int) (mnat p_N_forward)) 0 k_N_forward := mA (i := 0) (ok_ald_n (f := 0) (pc := 0) rfl rfl rfl (by decide +kernel)) (
  mA (i := 1) (ok_ic (n := 0) (pc := 1) (by decide +kernel) rfl rfl (by decide +kernel)) (
  mA (i := 2) (ok_pI (pc := 2) rfl (by decide +kernel) wd_618 inw_11 tyX10_ok nmX10 rfl (by decide +kernel) rfl rfl (by decide +kernel)) (
  mA (i := 3) (ok_ild_n (f := 1) (pc := 5) rfl rfl rfl (by decide +kernel)) (
  mA (i := 4) (ok_callI (pc := 6) (can_S cal_N_isMode (by decide +kernel) wd_741 wd_740 wd_605 (by decide +kernel)) rfl rfl) (
  mA (i := 5) (ok_ifne (off := 6) (pc := 9) (tgt := 15) rfl rfl rfl (by decide +kernel) (by decide +kernel)) (
  mA (i := 6) (ok_bi (n := (-2)) (pc := 12) (by decide +kernel) rfl rfl (by decide +kernel)) (
  mA (i := 7) (ok_iret (pc := 14) rfl rfl (by decide +kernel)) (
  mA (i := 8) (ok_ild_n (f := 2) (pc := 15) rfl rfl rfl (by decide +kernel)) (
  mA (i := 9) (ok_ic (n := (-1)) (pc := 16) (by decide +kernel) rfl rfl (by decide +kernel)) (
  mA (i := 10) (ok_cge (off := 6) (pc := 17) (tgt := 23) rfl rfl rfl (by decide +kernel) (by decide +kernel)) (
  mA (i := 11) (ok_bi (n := (-3)) (pc := 20) (by decide +kernel) rfl rfl (by decide +kernel)) (
  mA (i := 12) (ok_iret (pc := 22) rfl rfl (by decide +kernel)) (
  mA (i := 13) (ok_ic (n := 0) (pc := 23) (by decide +kernel) rfl rfl (by decide +kernel)) (
  mA (i := 14) (ok_ist_n (f := 3) (pc := 24) rfl (by decide +kernel) rfl rfl rfl (by decide +kernel)) (
  mA (i := 15) (ok_ic (n := 0) (pc := 25) (by decide +kernel) rfl rfl (by decide +kernel)) (
  mA (i := 16) (ok_ist (pc := 26) (by decide +kernel) rfl rfl rfl (by decide +kernel)) (
  mA (i := 17) (ok_ild (pc := 28) rfl rfl (by decide +kernel)) (
  mA (i := 18) (ok_bi (n := 24) (pc := 30) (by decide +kernel) rfl rfl (by decide +kernel)) (
  mA (i := 19) (ok_cge (off := 41) (pc := 32) (tgt := 73) rfl rfl rfl (by decide +kernel) (by decide +kernel)) (
  mA (i := 20) (ok_ild_n (f := 3) (pc := 35) rfl rfl rfl (by decide +kernel)) (
  mA (i := 21) (ok_ald_n (f := 0) (pc := 36) rfl rfl rfl (by decide +kernel)) (
  mA (i := 22) (ok_ild (pc := 37) rfl rfl (by decide +kernel)) (
  mA (i := 23) (ok_callI (pc := 39) (can_V cal_N_isKept (by decide +kernel) rfl (by decide +kernel) rfl wd_688 wd_689 wd_690 wd_605 (by decide +kernel)) rfl rfl) (
  mA (i := 24) (ok_ifeq (off := 22) (pc := 42) (tgt := 64) rfl rfl rfl (by decide +kernel) (by decide +kernel)) (
  mA (i := 25) (ok_ald_n (f := 0) (pc := 45) rfl rfl rfl (by decide +kernel)) (
  mA (i := 26) (ok_ild (pc := 46) rfl rfl (by decide +kernel)) (
  mA (i := 27) (ok_bi (n := 24) (pc := 48) (by decide +kernel) rfl rfl (by decide +kernel)) (
  mA (i := 28) (ok_ild_n (f := 1) (pc := 50) rfl rfl rfl (by decide +kernel)) (
  mA (i := 29) (ok_callI (pc := 51) (can_V cal_N_doesCover (by decide +kernel) rfl (by decide +kernel) rfl wd_745 wd_746 wd_747 wd_605 (by decide +kernel)) rfl rfl) (
  mA (i := 30) (ok_ifeq (off := 10) (pc := 54) (tgt := 64) rfl rfl rfl (by decide +kernel) (by decide +kernel)) (
  mA (i := 31) (ok_ic (n := 1) (pc := 57) (by decide +kernel) rfl rfl (by decide +kernel)) (
  mA (i := 32) (ok_ild (pc := 58) rfl rfl (by decide +kernel)) (
  mA (i := 33) (ok_shl (pc := 60) rfl rfl (by decide +kernel)) (
  mA (i := 34) (ok_goto (off := 4) (pc := 61) (tgt := 65) rfl rfl (by decide +kernel) (by decide +kernel)) (
  mA (i := 35) (ok_ic (n := 0) (pc := 64) (by decide +kernel) rfl rfl (by decide +kernel)) (
  mA (i := 36) (ok_or (pc := 65) rfl rfl (by decide +kernel)) (
  mA (i := 37) (ok_ist_n (f := 3) (pc := 66) rfl (by decide +kernel) rfl rfl rfl (by decide +kernel)) (
  mA (i := 38) (ok_inc (z := 1) (pc := 67) (by decide +kernel) (by decide +kernel) rfl rfl rfl (by decide +kernel)) (
  mA (i := 39) (ok_goto (off := (-42)) (pc := 70) (tgt := 28) rfl rfl (by decide +kernel) (by decide +kernel)) (
  mA (i := 40) (ok_ild_n (f := 3) (pc := 73) rfl rfl rfl (by decide +kernel)) (
  mA (i := 41) (ok_ild_n (f := 2) (pc := 74) rfl rfl rfl (by decide +kernel)) (
  mA (i := 42) (ok_callI (pc := 75) (can_S cal_N_told (by decide +kernel) wd_805 wd_804 wd_605 (by decide +kernel)) rfl rfl) (
  mA (i := 43) (ok_iret (pc := 78) rfl rfl (by decide +kernel)) (
  mZ))))))))))))))))))))))))))))))))))))))))))))
set_option maxRecDepth 20000 in
theorem ok_N_backward : mAll (mOk RX10 cX10_backward 5 true false (some .int) (mnat p_N_backward)) 0 k_N_backward := mA (i := 0) (ok_ald_n (f := 0) (pc := 0) rfl rfl rfl (by decide +kernel)) (
  mA (i := 1) (ok_ic (n := 0) (pc := 1) (by decide +kernel) rfl rfl (by decide +kernel)) (
  mA (i := 2) (ok_pI (pc := 2) rfl (by decide +kernel) wd_618 inw_11 tyX10_ok nmX10 rfl (by decide +kernel) rfl rfl (by decide +kernel)) (
  mA (i := 3) (ok_ild_n (f := 1) (pc := 5) rfl rfl rfl (by decide +kernel)) (
  mA (i := 4) (ok_callI (pc := 6) (can_S cal_N_isMode (by decide +kernel) wd_741 wd_740 wd_605 (by decide +kernel)) rfl rfl) (
  mA (i := 5) (ok_ifne (off := 6) (pc := 9) (tgt := 15) rfl rfl rfl (by decide +kernel) (by decide +kernel)) (
  mA (i := 6) (ok_bi (n := (-2)) (pc := 12) (by decide +kernel) rfl rfl (by decide +kernel)) (
  mA (i := 7) (ok_iret (pc := 14) rfl rfl (by decide +kernel)) (
  mA (i := 8) (ok_ild_n (f := 2) (pc := 15) rfl rfl rfl (by decide +kernel)) (
  mA (i := 9) (ok_ic (n := (-1)) (pc := 16) (by decide +kernel) rfl rfl (by decide +kernel)) (
  mA (i := 10) (ok_cge (off := 6) (pc := 17) (tgt := 23) rfl rfl rfl (by decide +kernel) (by decide +kernel)) (
  mA (i := 11) (ok_bi (n := (-3)) (pc := 20) (by decide +kernel) rfl rfl (by decide +kernel)) (
  mA (i := 12) (ok_iret (pc := 22) rfl rfl (by decide +kernel)) (
  mA (i := 13) (ok_ic (n := 0) (pc := 23) (by decide +kernel) rfl rfl (by decide +kernel)) (
  mA (i := 14) (ok_ist_n (f := 3) (pc := 24) rfl (by decide +kernel) rfl rfl rfl (by decide +kernel)) (
  mA (i := 15) (ok_ic (n := 0) (pc := 25) (by decide +kernel) rfl rfl (by decide +kernel)) (
  mA (i := 16) (ok_ist (pc := 26) (by decide +kernel) rfl rfl rfl (by decide +kernel)) (
  mA (i := 17) (ok_ild (pc := 28) rfl rfl (by decide +kernel)) (
  mA (i := 18) (ok_bi (n := 24) (pc := 30) (by decide +kernel) rfl rfl (by decide +kernel)) (
  mA (i := 19) (ok_cge (off := 41) (pc := 32) (tgt := 73) rfl rfl rfl (by decide +kernel) (by decide +kernel)) (
  mA (i := 20) (ok_ild_n (f := 3) (pc := 35) rfl rfl rfl (by decide +kernel)) (
  mA (i := 21) (ok_ald_n (f := 0) (pc := 36) rfl rfl rfl (by decide +kernel)) (
  mA (i := 22) (ok_ild (pc := 37) rfl rfl (by decide +kernel)) (
  mA (i := 23) (ok_callI (pc := 39) (can_V cal_N_isKept (by decide +kernel) rfl (by decide +kernel) rfl wd_688 wd_689 wd_690 wd_605 (by decide +kernel)) rfl rfl) (
  mA (i := 24) (ok_ifeq (off := 22) (pc := 42) (tgt := 64) rfl rfl rfl (by decide +kernel) (by decide +kernel)) (
  mA (i := 25) (ok_ald_n (f := 0) (pc := 45) rfl rfl rfl (by decide +kernel)) (
  mA (i := 26) (ok_bi (n := 24) (pc := 46) (by decide +kernel) rfl rfl (by decide +kernel)) (
  mA (i := 27) (ok_ild (pc := 48) rfl rfl (by decide +kernel)) (
  mA (i := 28) (ok_ild_n (f := 1) (pc := 50) rfl rfl rfl (by decide +kernel)) (
  mA (i := 29) (ok_callI (pc := 51) (can_V cal_N_doesCover (by decide +kernel) rfl (by decide +kernel) rfl wd_745 wd_746 wd_747 wd_605 (by decide +kernel)) rfl rfl) (
  mA (i := 30) (ok_ifeq (off := 10) (pc := 54) (tgt := 64) rfl rfl rfl (by decide +kernel) (by decide +kernel)) (
  mA (i := 31) (ok_ic (n := 1) (pc := 57) (by decide +kernel) rfl rfl (by decide +kernel)) (
  mA (i := 32) (ok_ild (pc := 58) rfl rfl (by decide +kernel)) (
  mA (i := 33) (ok_shl (pc := 60) rfl rfl (by decide +kernel)) (
  mA (i := 34) (ok_goto (off := 4) (pc := 61) (tgt := 65) rfl rfl (by decide +kernel) (by decide +kernel)) (
  mA (i := 35) (ok_ic (n := 0) (pc := 64) (by decide +kernel) rfl rfl (by decide +kernel)) (
  mA (i := 36) (ok_or (pc := 65) rfl rfl (by decide +kernel)) (
  mA (i := 37) (ok_ist_n (f := 3) (pc := 66) rfl (by decide +kernel) rfl rfl rfl (by decide +kernel)) (
  mA (i := 38) (ok_inc (z := 1) (pc := 67) (by decide +kernel) (by decide +kernel) rfl rfl rfl (by decide +kernel)) (
  mA (i := 39) (ok_goto (off := (-42)) (pc := 70) (tgt := 28) rfl rfl (by decide +kernel) (by decide +kernel)) (
  mA (i := 40) (ok_ild_n (f := 3) (pc := 73) rfl rfl rfl (by decide +kernel)) (
  mA (i := 41) (ok_ild_n (f := 2) (pc := 74) rfl rfl rfl (by decide +kernel)) (
  mA (i := 42) (ok_callI (pc := 75) (can_S cal_N_told (by decide +kernel) wd_805 wd_804 wd_605 (by decide +kernel)) rfl rfl) (
  mA (i := 43) (ok_iret (pc := 78) rfl rfl (by decide +kernel)) (
  mZ))))))))))))))))))))))))))))))))))))))))))))
set_option maxRecDepth 20000 in
theorem ok_N_isNoneAbove : mAll (mOk RX10 cX10_isNoneAbove 4 true false (some .boolean) (mnat p_N_isNoneAbove)) 0 k_N_isNoneAbove := mA (i := 0) (ok_ic (n := 0) (pc := 0) (by decide +kernel) rfl rfl (by decide +kernel)) (
  mA (i := 1) (ok_ist_n (f := 3) (pc := 1) rfl (by decide +kernel) rfl rfl rfl (by decide +kernel)) (
  mA (i := 2) (ok_ild_n (f := 3) (pc := 2) rfl rfl rfl (by decide +kernel)) (
  mA (i := 3) (ok_ald_n (f := 0) (pc := 3) rfl rfl rfl (by decide +kernel)) (
  mA (i := 4) (ok_gP (pc := 4) rfl (by decide +kernel) wd_575 inw_11 rfl rfl (by decide +kernel)) (
  mA (i := 5) (ok_si (n := 800) (pc := 7) (by decide +kernel) rfl rfl (by decide +kernel)) (
  mA (i := 6) (ok_iald (pc := 10) rfl rfl (by decide +kernel)) (
  mA (i := 7) (ok_cge (off := 54) (pc := 11) (tgt := 65) rfl rfl rfl (by decide +kernel) (by decide +kernel)) (
  mA (i := 8) (ok_ald_n (f := 0) (pc := 14) rfl rfl rfl (by decide +kernel)) (
  mA (i := 9) (ok_gP (pc := 15) rfl (by decide +kernel) wd_589 inw_11 rfl rfl (by decide +kernel)) (
  mA (i := 10) (ok_bi (n := 40) (pc := 18) (by decide +kernel) rfl rfl (by decide +kernel)) (
  mA (i := 11) (ok_ild_n (f := 1) (pc := 20) rfl rfl rfl (by decide +kernel)) (
  mA (i := 12) (ok_mul (pc := 21) rfl rfl (by decide +kernel)) (
  mA (i := 13) (ok_ald_n (f := 0) (pc := 22) rfl rfl rfl (by decide +kernel)) (
  mA (i := 14) (ok_gP (pc := 23) rfl (by decide +kernel) wd_575 inw_11 rfl rfl (by decide +kernel)) (
  mA (i := 15) (ok_si (n := 801) (pc := 26) (by decide +kernel) rfl rfl (by decide +kernel)) (
  mA (i := 16) (ok_ild_n (f := 3) (pc := 29) rfl rfl rfl (by decide +kernel)) (
  mA (i := 17) (ok_add (pc := 30) rfl rfl (by decide +kernel)) (
  mA (i := 18) (ok_iald (pc := 31) rfl rfl (by decide +kernel)) (
  mA (i := 19) (ok_add (pc := 32) rfl rfl (by decide +kernel)) (
  mA (i := 20) (ok_iald (pc := 33) rfl rfl (by decide +kernel)) (
  mA (i := 21) (ok_ald_n (f := 0) (pc := 34) rfl rfl rfl (by decide +kernel)) (
  mA (i := 22) (ok_gP (pc := 35) rfl (by decide +kernel) wd_589 inw_11 rfl rfl (by decide +kernel)) (
  mA (i := 23) (ok_bi (n := 40) (pc := 38) (by decide +kernel) rfl rfl (by decide +kernel)) (
  mA (i := 24) (ok_ild_n (f := 2) (pc := 40) rfl rfl rfl (by decide +kernel)) (
  mA (i := 25) (ok_mul (pc := 41) rfl rfl (by decide +kernel)) (
  mA (i := 26) (ok_ald_n (f := 0) (pc := 42) rfl rfl rfl (by decide +kernel)) (
  mA (i := 27) (ok_gP (pc := 43) rfl (by decide +kernel) wd_575 inw_11 rfl rfl (by decide +kernel)) (
  mA (i := 28) (ok_si (n := 801) (pc := 46) (by decide +kernel) rfl rfl (by decide +kernel)) (
  mA (i := 29) (ok_ild_n (f := 3) (pc := 49) rfl rfl rfl (by decide +kernel)) (
  mA (i := 30) (ok_add (pc := 50) rfl rfl (by decide +kernel)) (
  mA (i := 31) (ok_iald (pc := 51) rfl rfl (by decide +kernel)) (
  mA (i := 32) (ok_add (pc := 52) rfl rfl (by decide +kernel)) (
  mA (i := 33) (ok_iald (pc := 53) rfl rfl (by decide +kernel)) (
  mA (i := 34) (ok_cle (off := 5) (pc := 54) (tgt := 59) rfl rfl rfl (by decide +kernel) (by decide +kernel)) (
  mA (i := 35) (ok_ic (n := 0) (pc := 57) (by decide +kernel) rfl rfl (by decide +kernel)) (
  mA (i := 36) (ok_zret (pc := 58) rfl rfl (by decide +kernel)) (
  mA (i := 37) (ok_inc (z := 1) (pc := 59) (by decide +kernel) (by decide +kernel) rfl rfl rfl (by decide +kernel)) (
  mA (i := 38) (ok_goto (off := (-60)) (pc := 62) (tgt := 2) rfl rfl (by decide +kernel) (by decide +kernel)) (
  mA (i := 39) (ok_ic (n := 1) (pc := 65) (by decide +kernel) rfl rfl (by decide +kernel)) (
  mA (i := 40) (ok_zret (pc := 66) rfl rfl (by decide +kernel)) (
  mZ)))))))))))))))))))))))))))))))))))))))))
set_option maxRecDepth 20000 in
theorem ok_N_pairsNow : mAll (mOk RX10 cX10_pairsNow 6 true false (some .int) (mnat p_N_pairsNow)) 0 k_N_pairsNow := mA (i := 0) (ok_ald_n (f := 0) (pc := 0) rfl rfl rfl (by decide +kernel)) (
  mA (i := 1) (ok_ild_n (f := 1) (pc := 1) rfl rfl rfl (by decide +kernel)) (
  mA (i := 2) (ok_callV (pc := 2) (can_V cal_N_laysValues (by decide +kernel) rfl (by decide +kernel) rfl wd_772 wd_773 wd_774 wd_605 (by decide +kernel)) rfl rfl) (
  mA (i := 3) (ok_ic (n := 0) (pc := 5) (by decide +kernel) rfl rfl (by decide +kernel)) (
  mA (i := 4) (ok_ist_n (f := 3) (pc := 6) rfl (by decide +kernel) rfl rfl rfl (by decide +kernel)) (
  mA (i := 5) (ok_ic (n := 0) (pc := 7) (by decide +kernel) rfl rfl (by decide +kernel)) (
  mA (i := 6) (ok_ist (pc := 8) (by decide +kernel) rfl rfl rfl (by decide +kernel)) (
  mA (i := 7) (ok_ild (pc := 10) rfl rfl (by decide +kernel)) (
  mA (i := 8) (ok_bi (n := 24) (pc := 12) (by decide +kernel) rfl rfl (by decide +kernel)) (
  mA (i := 9) (ok_cge (off := 91) (pc := 14) (tgt := 105) rfl rfl rfl (by decide +kernel) (by decide +kernel)) (
  mA (i := 10) (ok_ic (n := 0) (pc := 17) (by decide +kernel) rfl rfl (by decide +kernel)) (
  mA (i := 11) (ok_ist (pc := 18) (by decide +kernel) rfl rfl rfl (by decide +kernel)) (
  mA (i := 12) (ok_ild (pc := 20) rfl rfl (by decide +kernel)) (
  mA (i := 13) (ok_bi (n := 24) (pc := 22) (by decide +kernel) rfl rfl (by decide +kernel)) (
  mA (i := 14) (ok_cge (off := 75) (pc := 24) (tgt := 99) rfl rfl rfl (by decide +kernel) (by decide +kernel)) (
  mA (i := 15) (ok_ild (pc := 27) rfl rfl (by decide +kernel)) (
  mA (i := 16) (ok_ild (pc := 29) rfl rfl (by decide +kernel)) (
  mA (i := 17) (ok_ceq (off := 62) (pc := 31) (tgt := 93) rfl rfl rfl (by decide +kernel) (by decide +kernel)) (
  mA (i := 18) (ok_ald_n (f := 0) (pc := 34) rfl rfl rfl (by decide +kernel)) (
  mA (i := 19) (ok_ild (pc := 35) rfl rfl (by decide +kernel)) (
  mA (i := 20) (ok_callI (pc := 37) (can_V cal_N_isKept (by decide +kernel) rfl (by decide +kernel) rfl wd_688 wd_689 wd_690 wd_605 (by decide +kernel)) rfl rfl) (
  mA (i := 21) (ok_ifeq (off := 53) (pc := 40) (tgt := 93) rfl rfl rfl (by decide +kernel) (by decide +kernel)) (
  mA (i := 22) (ok_ald_n (f := 0) (pc := 43) rfl rfl rfl (by decide +kernel)) (
  mA (i := 23) (ok_ild (pc := 44) rfl rfl (by decide +kernel)) (
  mA (i := 24) (ok_callI (pc := 46) (can_V cal_N_isKept (by decide +kernel) rfl (by decide +kernel) rfl wd_688 wd_689 wd_690 wd_605 (by decide +kernel)) rfl rfl) (
  mA (i := 25) (ok_ifne (off := 6) (pc := 49) (tgt := 55) rfl rfl rfl (by decide +kernel) (by decide +kernel)) (
  mA (i := 26) (ok_goto (off := 41) (pc := 52) (tgt := 93) rfl rfl (by decide +kernel) (by decide +kernel)) (
  mA (i := 27) (ok_ild_n (f := 3) (pc := 55) rfl rfl rfl (by decide +kernel)) (
  mA (i := 28) (ok_ild_n (f := 2) (pc := 56) rfl rfl rfl (by decide +kernel)) (
  mA (i := 29) (ok_ifne (off := 17) (pc := 57) (tgt := 74) rfl rfl rfl (by decide +kernel) (by decide +kernel)) (
  mA (i := 30) (ok_ald_n (f := 0) (pc := 60) rfl rfl rfl (by decide +kernel)) (
  mA (i := 31) (ok_ild (pc := 61) rfl rfl (by decide +kernel)) (
  mA (i := 32) (ok_ild (pc := 63) rfl rfl (by decide +kernel)) (
  mA (i := 33) (ok_callI (pc := 65) (can_V cal_N_isNoneAbove (by decide +kernel) rfl (by decide +kernel) rfl wd_806 wd_807 wd_808 wd_605 (by decide +kernel)) rfl rfl) (
  mA (i := 34) (ok_ifeq (off := 22) (pc := 68) (tgt := 90) rfl rfl rfl (by decide +kernel) (by decide +kernel)) (
  mA (i := 35) (ok_goto (off := 15) (pc := 71) (tgt := 86) rfl rfl (by decide +kernel) (by decide +kernel)) (
  mA (i := 36) (ok_ald_n (f := 0) (pc := 74) rfl rfl rfl (by decide +kernel)) (
  mA (i := 37) (ok_ild (pc := 75) rfl rfl (by decide +kernel)) (
  mA (i := 38) (ok_ild (pc := 77) rfl rfl (by decide +kernel)) (
  mA (i := 39) (ok_ild_n (f := 1) (pc := 79) rfl rfl rfl (by decide +kernel)) (
  mA (i := 40) (ok_callI (pc := 80) (can_V cal_N_doesCover (by decide +kernel) rfl (by decide +kernel) rfl wd_745 wd_746 wd_747 wd_605 (by decide +kernel)) rfl rfl) (
  mA (i := 41) (ok_ifeq (off := 7) (pc := 83) (tgt := 90) rfl rfl rfl (by decide +kernel) (by decide +kernel)) (
  mA (i := 42) (ok_ic (n := 1) (pc := 86) (by decide +kernel) rfl rfl (by decide +kernel)) (
  mA (i := 43) (ok_goto (off := 4) (pc := 87) (tgt := 91) rfl rfl (by decide +kernel) (by decide +kernel)) (
  mA (i := 44) (ok_ic (n := 0) (pc := 90) (by decide +kernel) rfl rfl (by decide +kernel)) (
  mA (i := 45) (ok_add (pc := 91) rfl rfl (by decide +kernel)) (
  mA (i := 46) (ok_ist_n (f := 3) (pc := 92) rfl (by decide +kernel) rfl rfl rfl (by decide +kernel)) (
  mA (i := 47) (ok_inc (z := 1) (pc := 93) (by decide +kernel) (by decide +kernel) rfl rfl rfl (by decide +kernel)) (
  mA (i := 48) (ok_goto (off := (-76)) (pc := 96) (tgt := 20) rfl rfl (by decide +kernel) (by decide +kernel)) (
  mA (i := 49) (ok_inc (z := 1) (pc := 99) (by decide +kernel) (by decide +kernel) rfl rfl rfl (by decide +kernel)) (
  mA (i := 50) (ok_goto (off := (-92)) (pc := 102) (tgt := 10) rfl rfl (by decide +kernel) (by decide +kernel)) (
  mA (i := 51) (ok_ild_n (f := 3) (pc := 105) rfl rfl rfl (by decide +kernel)) (
  mA (i := 52) (ok_iret (pc := 106) rfl rfl (by decide +kernel)) (
  mZ)))))))))))))))))))))))))))))))))))))))))))))))))))))
set_option maxRecDepth 20000 in
theorem ok_N_pairs : mAll (mOk RX10 cX10_pairs 3 true false (some .int) (mnat p_N_pairs)) 0 k_N_pairs := mA (i := 0) (ok_ald_n (f := 0) (pc := 0) rfl rfl rfl (by decide +kernel)) (
  mA (i := 1) (ok_ic (n := 0) (pc := 1) (by decide +kernel) rfl rfl (by decide +kernel)) (
  mA (i := 2) (ok_pI (pc := 2) rfl (by decide +kernel) wd_618 inw_11 tyX10_ok nmX10 rfl (by decide +kernel) rfl rfl (by decide +kernel)) (
  mA (i := 3) (ok_ild_n (f := 1) (pc := 5) rfl rfl rfl (by decide +kernel)) (
  mA (i := 4) (ok_callI (pc := 6) (can_S cal_N_isMode (by decide +kernel) wd_741 wd_740 wd_605 (by decide +kernel)) rfl rfl) (
  mA (i := 5) (ok_ifeq (off := 22) (pc := 9) (tgt := 31) rfl rfl rfl (by decide +kernel) (by decide +kernel)) (
  mA (i := 6) (ok_ild_n (f := 2) (pc := 12) rfl rfl rfl (by decide +kernel)) (
  mA (i := 7) (ok_i2l (pc := 13) rfl rfl (by decide +kernel)) (
  mA (i := 8) (ok_lc (n := 0) (pc := 14) (by decide +kernel) rfl rfl (by decide +kernel)) (
  mA (i := 9) (ok_lc (n := 1) (pc := 15) (by decide +kernel) rfl rfl (by decide +kernel)) (
  mA (i := 10) (ok_callI (pc := 16) (can_S cal_N_within (by decide +kernel) wd_606 wd_604 wd_605 (by decide +kernel)) rfl rfl) (
  mA (i := 11) (ok_ifeq (off := 12) (pc := 19) (tgt := 31) rfl rfl rfl (by decide +kernel) (by decide +kernel)) (
  mA (i := 12) (ok_ald_n (f := 0) (pc := 22) rfl rfl rfl (by decide +kernel)) (
  mA (i := 13) (ok_ild_n (f := 1) (pc := 23) rfl rfl rfl (by decide +kernel)) (
  mA (i := 14) (ok_ild_n (f := 2) (pc := 24) rfl rfl rfl (by decide +kernel)) (
  mA (i := 15) (ok_callI (pc := 25) (can_V cal_N_pairsNow (by decide +kernel) rfl (by decide +kernel) rfl wd_809 wd_810 wd_811 wd_605 (by decide +kernel)) rfl rfl) (
  mA (i := 16) (ok_goto (off := 5) (pc := 28) (tgt := 33) rfl rfl (by decide +kernel) (by decide +kernel)) (
  mA (i := 17) (ok_bi (n := (-2)) (pc := 31) (by decide +kernel) rfl rfl (by decide +kernel)) (
  mA (i := 18) (ok_iret (pc := 33) rfl rfl (by decide +kernel)) (
  mZ)))))))))))))))))))
set_option maxRecDepth 20000 in
theorem ok_N_floatBits_t60 : mAll (mOk RX10 cX10_floatBits 9 false false (some .int) (mnat p_N_floatBits)) 60 [o_lld 5, o_ladd, o_l2i, o_iret] := mA (i := 60) (ok_lld (pc := 95) rfl rfl (by decide +kernel)) (
  mA (i := 61) (ok_ladd (pc := 97) rfl rfl (by decide +kernel)) (
  mA (i := 62) (ok_l2i (pc := 98) rfl rfl (by decide +kernel)) (
  mA (i := 63) (ok_iret (pc := 99) rfl rfl (by decide +kernel)) (
  mZ))))
set_option maxRecDepth 20000 in
theorem ok_N_floatBits : mAll (mOk RX10 cX10_floatBits 9 false false (some .int) (mnat p_N_floatBits)) 0 k_N_floatBits := mA (i := 0) (ok_ild_n (f := 0) (pc := 0) rfl rfl rfl (by decide +kernel)) (
  mA (i := 1) (ok_ifne (off := 5) (pc := 1) (tgt := 6) rfl rfl rfl (by decide +kernel) (by decide +kernel)) (
  mA (i := 2) (ok_ic (n := 0) (pc := 4) (by decide +kernel) rfl rfl (by decide +kernel)) (
  mA (i := 3) (ok_iret (pc := 5) rfl rfl (by decide +kernel)) (
  mA (i := 4) (ok_ild_n (f := 0) (pc := 6) rfl rfl rfl (by decide +kernel)) (
  mA (i := 5) (ok_i2l (pc := 7) rfl rfl (by decide +kernel)) (
  mA (i := 6) (ok_lst_n (f := 2) (pc := 8) rfl (by decide +kernel) rfl rfl rfl (by decide +kernel)) (
  mA (i := 7) (ok_ic (n := 0) (pc := 9) (by decide +kernel) rfl rfl (by decide +kernel)) (
  mA (i := 8) (ok_istL (pc := 10) (by decide +kernel) rfl rfl (by decide +kernel)) (
  mA (i := 9) (ok_lld_n (f := 2) (pc := 12) rfl rfl rfl (by decide +kernel)) (
  mA (i := 10) (ok_ild_n (f := 1) (pc := 13) rfl rfl rfl (by decide +kernel)) (
  mA (i := 11) (ok_i2l (pc := 14) rfl rfl (by decide +kernel)) (
  mA (i := 12) (ok_ldiv (pc := 15) rfl rfl (by decide +kernel)) (
  mA (i := 13) (ok_ldc2 (pc := 16) wd_812 rfl rfl (by decide +kernel)) (
  mA (i := 14) (ok_lcmp (pc := 19) rfl rfl (by decide +kernel)) (
  mA (i := 15) (ok_ifge (off := 15) (pc := 20) (tgt := 35) rfl rfl rfl (by decide +kernel) (by decide +kernel)) (
  mA (i := 16) (ok_lld_n (f := 2) (pc := 23) rfl rfl rfl (by decide +kernel)) (
  mA (i := 17) (ok_ldc2 (pc := 24) wd_699 rfl rfl (by decide +kernel)) (
  mA (i := 18) (ok_lmul (pc := 27) rfl rfl (by decide +kernel)) (
  mA (i := 19) (ok_lst_n (f := 2) (pc := 28) rfl (by decide +kernel) rfl rfl rfl (by decide +kernel)) (
  mA (i := 20) (ok_incL (z := 1) (pc := 29) (by decide +kernel) (by decide +kernel) rfl rfl (by decide +kernel)) (
  mA (i := 21) (ok_goto (off := (-20)) (pc := 32) (tgt := 12) rfl rfl (by decide +kernel) (by decide +kernel)) (
  mA (i := 22) (ok_lld_n (f := 2) (pc := 35) rfl rfl rfl (by decide +kernel)) (
  mA (i := 23) (ok_ild_n (f := 1) (pc := 36) rfl rfl rfl (by decide +kernel)) (
  mA (i := 24) (ok_i2l (pc := 37) rfl rfl (by decide +kernel)) (
  mA (i := 25) (ok_ldiv (pc := 38) rfl rfl (by decide +kernel)) (
  mA (i := 26) (ok_lst (pc := 39) (by decide +kernel) rfl rfl rfl (by decide +kernel)) (
  mA (i := 27) (ok_ldc2 (pc := 41) wd_699 rfl rfl (by decide +kernel)) (
  mA (i := 28) (ok_lld_n (f := 2) (pc := 44) rfl rfl rfl (by decide +kernel)) (
  mA (i := 29) (ok_ild_n (f := 1) (pc := 45) rfl rfl rfl (by decide +kernel)) (
  mA (i := 30) (ok_i2l (pc := 46) rfl rfl (by decide +kernel)) (
  mA (i := 31) (ok_lrem (pc := 47) rfl rfl (by decide +kernel)) (
  mA (i := 32) (ok_lmul (pc := 48) rfl rfl (by decide +kernel)) (
  mA (i := 33) (ok_lst (pc := 49) (by decide +kernel) rfl rfl rfl (by decide +kernel)) (
  mA (i := 34) (ok_lld (pc := 51) rfl rfl (by decide +kernel)) (
  mA (i := 35) (ok_ild_n (f := 1) (pc := 53) rfl rfl rfl (by decide +kernel)) (
  mA (i := 36) (ok_i2l (pc := 54) rfl rfl (by decide +kernel)) (
  mA (i := 37) (ok_lcmp (pc := 55) rfl rfl (by decide +kernel)) (
  mA (i := 38) (ok_ifgt (off := 22) (pc := 56) (tgt := 78) rfl rfl rfl (by decide +kernel) (by decide +kernel)) (
  mA (i := 39) (ok_lld (pc := 59) rfl rfl (by decide +kernel)) (
  mA (i := 40) (ok_ild_n (f := 1) (pc := 61) rfl rfl rfl (by decide +kernel)) (
  mA (i := 41) (ok_i2l (pc := 62) rfl rfl (by decide +kernel)) (
  mA (i := 42) (ok_lcmp (pc := 63) rfl rfl (by decide +kernel)) (
  mA (i := 43) (ok_ifne (off := 20) (pc := 64) (tgt := 84) rfl rfl rfl (by decide +kernel) (by decide +kernel)) (
  mA (i := 44) (ok_lld (pc := 67) rfl rfl (by decide +kernel)) (
  mA (i := 45) (ok_ldc2 (pc := 69) wd_699 rfl rfl (by decide +kernel)) (
  mA (i := 46) (ok_lrem (pc := 72) rfl rfl (by decide +kernel)) (
  mA (i := 47) (ok_lc (n := 1) (pc := 73) (by decide +kernel) rfl rfl (by decide +kernel)) (
  mA (i := 48) (ok_lcmp (pc := 74) rfl rfl (by decide +kernel)) (
  mA (i := 49) (ok_ifne (off := 9) (pc := 75) (tgt := 84) rfl rfl rfl (by decide +kernel) (by decide +kernel)) (
  mA (i := 50) (ok_lld (pc := 78) rfl rfl (by decide +kernel)) (
  mA (i := 51) (ok_lc (n := 1) (pc := 80) (by decide +kernel) rfl rfl (by decide +kernel)) (
  mA (i := 52) (ok_ladd (pc := 81) rfl rfl (by decide +kernel)) (
  mA (i := 53) (ok_lst (pc := 82) (by decide +kernel) rfl rfl rfl (by decide +kernel)) (
  mA (i := 54) (ok_ldc2 (pc := 84) wd_813 rfl rfl (by decide +kernel)) (
  mA (i := 55) (ok_ild (pc := 87) rfl rfl (by decide +kernel)) (
  mA (i := 56) (ok_i2l (pc := 89) rfl rfl (by decide +kernel)) (
  mA (i := 57) (ok_lsub (pc := 90) rfl rfl (by decide +kernel)) (
  mA (i := 58) (ok_ldc2 (pc := 91) wd_812 rfl rfl (by decide +kernel)) (
  mA (i := 59) (ok_lmul (pc := 94) rfl rfl (by decide +kernel)) (
  ok_N_floatBits_t60))))))))))))))))))))))))))))))))))))))))))))))))))))))))))))
set_option maxRecDepth 20000 in
theorem ok_N_rate : mAll (mOk RX10 cX10_rate 2 true false (some .int) (mnat p_N_rate)) 0 k_N_rate := mA (i := 0) (ok_ald_n (f := 0) (pc := 0) rfl rfl rfl (by decide +kernel)) (
  mA (i := 1) (ok_ic (n := 0) (pc := 1) (by decide +kernel) rfl rfl (by decide +kernel)) (
  mA (i := 2) (ok_pI (pc := 2) rfl (by decide +kernel) wd_618 inw_11 tyX10_ok nmX10 rfl (by decide +kernel) rfl rfl (by decide +kernel)) (
  mA (i := 3) (ok_ild_n (f := 1) (pc := 5) rfl rfl rfl (by decide +kernel)) (
  mA (i := 4) (ok_callI (pc := 6) (can_S cal_N_isMode (by decide +kernel) wd_741 wd_740 wd_605 (by decide +kernel)) rfl rfl) (
  mA (i := 5) (ok_ifne (off := 6) (pc := 9) (tgt := 15) rfl rfl rfl (by decide +kernel) (by decide +kernel)) (
  mA (i := 6) (ok_bi (n := (-2)) (pc := 12) (by decide +kernel) rfl rfl (by decide +kernel)) (
  mA (i := 7) (ok_iret (pc := 14) rfl rfl (by decide +kernel)) (
  mA (i := 8) (ok_ald_n (f := 0) (pc := 15) rfl rfl rfl (by decide +kernel)) (
  mA (i := 9) (ok_ild_n (f := 1) (pc := 16) rfl rfl rfl (by decide +kernel)) (
  mA (i := 10) (ok_ic (n := 1) (pc := 17) (by decide +kernel) rfl rfl (by decide +kernel)) (
  mA (i := 11) (ok_callI (pc := 18) (can_V cal_N_pairsNow (by decide +kernel) rfl (by decide +kernel) rfl wd_809 wd_810 wd_811 wd_605 (by decide +kernel)) rfl rfl) (
  mA (i := 12) (ok_ald_n (f := 0) (pc := 21) rfl rfl rfl (by decide +kernel)) (
  mA (i := 13) (ok_ild_n (f := 1) (pc := 22) rfl rfl rfl (by decide +kernel)) (
  mA (i := 14) (ok_ic (n := 0) (pc := 23) (by decide +kernel) rfl rfl (by decide +kernel)) (
  mA (i := 15) (ok_callI (pc := 24) (can_V cal_N_pairsNow (by decide +kernel) rfl (by decide +kernel) rfl wd_809 wd_810 wd_811 wd_605 (by decide +kernel)) rfl rfl) (
  mA (i := 16) (ok_callI (pc := 27) (can_S cal_N_floatBits (by decide +kernel) wd_815 wd_814 wd_605 (by decide +kernel)) rfl rfl) (
  mA (i := 17) (ok_iret (pc := 30) rfl rfl (by decide +kernel)) (
  mZ))))))))))))))))))
set_option maxRecDepth 20000 in
theorem ok_N_pairsBy_t60 : mAll (mOk RX10 cX10_pairsBy 6 true false (some .int) (mnat p_N_pairsBy)) 60 [o_goto 62, o_ic (nI 0), o_add, o_ist 3, o_inc 5 (nI 1), o_goto 9, o_inc 4 (nI 1), o_goto 4, o_ild 3, o_iret] := mA (i := 60) (ok_goto (off := 4) (pc := 106) (tgt := 110) rfl rfl (by decide +kernel) (by decide +kernel)) (
  mA (i := 61) (ok_ic (n := 0) (pc := 109) (by decide +kernel) rfl rfl (by decide +kernel)) (
  mA (i := 62) (ok_add (pc := 110) rfl rfl (by decide +kernel)) (
  mA (i := 63) (ok_ist_n (f := 3) (pc := 111) rfl (by decide +kernel) rfl rfl rfl (by decide +kernel)) (
  mA (i := 64) (ok_inc (z := 1) (pc := 112) (by decide +kernel) (by decide +kernel) rfl rfl rfl (by decide +kernel)) (
  mA (i := 65) (ok_goto (off := (-100)) (pc := 115) (tgt := 15) rfl rfl (by decide +kernel) (by decide +kernel)) (
  mA (i := 66) (ok_inc (z := 1) (pc := 118) (by decide +kernel) (by decide +kernel) rfl rfl rfl (by decide +kernel)) (
  mA (i := 67) (ok_goto (off := (-116)) (pc := 121) (tgt := 5) rfl rfl (by decide +kernel) (by decide +kernel)) (
  mA (i := 68) (ok_ild_n (f := 3) (pc := 124) rfl rfl rfl (by decide +kernel)) (
  mA (i := 69) (ok_iret (pc := 125) rfl rfl (by decide +kernel)) (
  mZ))))))))))
set_option maxRecDepth 20000 in
theorem ok_N_pairsBy : mAll (mOk RX10 cX10_pairsBy 6 true false (some .int) (mnat p_N_pairsBy)) 0 k_N_pairsBy := mA (i := 0) (ok_ic (n := 0) (pc := 0) (by decide +kernel) rfl rfl (by decide +kernel)) (
  mA (i := 1) (ok_ist_n (f := 3) (pc := 1) rfl (by decide +kernel) rfl rfl rfl (by decide +kernel)) (
  mA (i := 2) (ok_ic (n := 0) (pc := 2) (by decide +kernel) rfl rfl (by decide +kernel)) (
  mA (i := 3) (ok_ist (pc := 3) (by decide +kernel) rfl rfl rfl (by decide +kernel)) (
  mA (i := 4) (ok_ild (pc := 5) rfl rfl (by decide +kernel)) (
  mA (i := 5) (ok_bi (n := 24) (pc := 7) (by decide +kernel) rfl rfl (by decide +kernel)) (
  mA (i := 6) (ok_cge (off := 115) (pc := 9) (tgt := 124) rfl rfl rfl (by decide +kernel) (by decide +kernel)) (
  mA (i := 7) (ok_ic (n := 0) (pc := 12) (by decide +kernel) rfl rfl (by decide +kernel)) (
  mA (i := 8) (ok_ist (pc := 13) (by decide +kernel) rfl rfl rfl (by decide +kernel)) (
  mA (i := 9) (ok_ild (pc := 15) rfl rfl (by decide +kernel)) (
  mA (i := 10) (ok_bi (n := 24) (pc := 17) (by decide +kernel) rfl rfl (by decide +kernel)) (
  mA (i := 11) (ok_cge (off := 99) (pc := 19) (tgt := 118) rfl rfl rfl (by decide +kernel) (by decide +kernel)) (
  mA (i := 12) (ok_ild (pc := 22) rfl rfl (by decide +kernel)) (
  mA (i := 13) (ok_ild (pc := 24) rfl rfl (by decide +kernel)) (
  mA (i := 14) (ok_ceq (off := 86) (pc := 26) (tgt := 112) rfl rfl rfl (by decide +kernel) (by decide +kernel)) (
  mA (i := 15) (ok_ald_n (f := 0) (pc := 29) rfl rfl rfl (by decide +kernel)) (
  mA (i := 16) (ok_ild (pc := 30) rfl rfl (by decide +kernel)) (
  mA (i := 17) (ok_callI (pc := 32) (can_V cal_N_isKept (by decide +kernel) rfl (by decide +kernel) rfl wd_688 wd_689 wd_690 wd_605 (by decide +kernel)) rfl rfl) (
  mA (i := 18) (ok_ifeq (off := 77) (pc := 35) (tgt := 112) rfl rfl rfl (by decide +kernel) (by decide +kernel)) (
  mA (i := 19) (ok_ald_n (f := 0) (pc := 38) rfl rfl rfl (by decide +kernel)) (
  mA (i := 20) (ok_ild (pc := 39) rfl rfl (by decide +kernel)) (
  mA (i := 21) (ok_callI (pc := 41) (can_V cal_N_isKept (by decide +kernel) rfl (by decide +kernel) rfl wd_688 wd_689 wd_690 wd_605 (by decide +kernel)) rfl rfl) (
  mA (i := 22) (ok_ifne (off := 6) (pc := 44) (tgt := 50) rfl rfl rfl (by decide +kernel) (by decide +kernel)) (
  mA (i := 23) (ok_goto (off := 65) (pc := 47) (tgt := 112) rfl rfl (by decide +kernel) (by decide +kernel)) (
  mA (i := 24) (ok_ild_n (f := 3) (pc := 50) rfl rfl rfl (by decide +kernel)) (
  mA (i := 25) (ok_ald_n (f := 0) (pc := 51) rfl rfl rfl (by decide +kernel)) (
  mA (i := 26) (ok_gP (pc := 52) rfl (by decide +kernel) wd_589 inw_11 rfl rfl (by decide +kernel)) (
  mA (i := 27) (ok_bi (n := 40) (pc := 55) (by decide +kernel) rfl rfl (by decide +kernel)) (
  mA (i := 28) (ok_ild (pc := 57) rfl rfl (by decide +kernel)) (
  mA (i := 29) (ok_mul (pc := 59) rfl rfl (by decide +kernel)) (
  mA (i := 30) (ok_ild_n (f := 1) (pc := 60) rfl rfl rfl (by decide +kernel)) (
  mA (i := 31) (ok_add (pc := 61) rfl rfl (by decide +kernel)) (
  mA (i := 32) (ok_iald (pc := 62) rfl rfl (by decide +kernel)) (
  mA (i := 33) (ok_ald_n (f := 0) (pc := 63) rfl rfl rfl (by decide +kernel)) (
  mA (i := 34) (ok_gP (pc := 64) rfl (by decide +kernel) wd_589 inw_11 rfl rfl (by decide +kernel)) (
  mA (i := 35) (ok_bi (n := 40) (pc := 67) (by decide +kernel) rfl rfl (by decide +kernel)) (
  mA (i := 36) (ok_ild (pc := 69) rfl rfl (by decide +kernel)) (
  mA (i := 37) (ok_mul (pc := 71) rfl rfl (by decide +kernel)) (
  mA (i := 38) (ok_ild_n (f := 1) (pc := 72) rfl rfl rfl (by decide +kernel)) (
  mA (i := 39) (ok_add (pc := 73) rfl rfl (by decide +kernel)) (
  mA (i := 40) (ok_iald (pc := 74) rfl rfl (by decide +kernel)) (
  mA (i := 41) (ok_cgt (off := 34) (pc := 75) (tgt := 109) rfl rfl rfl (by decide +kernel) (by decide +kernel)) (
  mA (i := 42) (ok_ald_n (f := 0) (pc := 78) rfl rfl rfl (by decide +kernel)) (
  mA (i := 43) (ok_gP (pc := 79) rfl (by decide +kernel) wd_589 inw_11 rfl rfl (by decide +kernel)) (
  mA (i := 44) (ok_bi (n := 40) (pc := 82) (by decide +kernel) rfl rfl (by decide +kernel)) (
  mA (i := 45) (ok_ild (pc := 84) rfl rfl (by decide +kernel)) (
  mA (i := 46) (ok_mul (pc := 86) rfl rfl (by decide +kernel)) (
  mA (i := 47) (ok_ild_n (f := 2) (pc := 87) rfl rfl rfl (by decide +kernel)) (
  mA (i := 48) (ok_add (pc := 88) rfl rfl (by decide +kernel)) (
  mA (i := 49) (ok_iald (pc := 89) rfl rfl (by decide +kernel)) (
  mA (i := 50) (ok_ald_n (f := 0) (pc := 90) rfl rfl rfl (by decide +kernel)) (
  mA (i := 51) (ok_gP (pc := 91) rfl (by decide +kernel) wd_589 inw_11 rfl rfl (by decide +kernel)) (
  mA (i := 52) (ok_bi (n := 40) (pc := 94) (by decide +kernel) rfl rfl (by decide +kernel)) (
  mA (i := 53) (ok_ild (pc := 96) rfl rfl (by decide +kernel)) (
  mA (i := 54) (ok_mul (pc := 98) rfl rfl (by decide +kernel)) (
  mA (i := 55) (ok_ild_n (f := 2) (pc := 99) rfl rfl rfl (by decide +kernel)) (
  mA (i := 56) (ok_add (pc := 100) rfl rfl (by decide +kernel)) (
  mA (i := 57) (ok_iald (pc := 101) rfl rfl (by decide +kernel)) (
  mA (i := 58) (ok_cgt (off := 7) (pc := 102) (tgt := 109) rfl rfl rfl (by decide +kernel) (by decide +kernel)) (
  mA (i := 59) (ok_ic (n := 1) (pc := 105) (by decide +kernel) rfl rfl (by decide +kernel)) (
  ok_N_pairsBy_t60))))))))))))))))))))))))))))))))))))))))))))))))))))))))))))
set_option maxRecDepth 20000 in
theorem ok_N_best_t60 : mAll (mOk RX10 cX10_best 9 true false (some .int) (mnat p_N_best)) 60 [o_cne 63, o_ild 3, o_goto 64, o_ild 4, o_iret] := mA (i := 60) (ok_cne (off := 7) (pc := 119) (tgt := 126) rfl rfl rfl (by decide +kernel) (by decide +kernel)) (
  mA (i := 61) (ok_ild_n (f := 3) (pc := 122) rfl rfl rfl (by decide +kernel)) (
  mA (i := 62) (ok_goto (off := 5) (pc := 123) (tgt := 128) rfl rfl (by decide +kernel) (by decide +kernel)) (
  mA (i := 63) (ok_ild (pc := 126) rfl rfl (by decide +kernel)) (
  mA (i := 64) (ok_iret (pc := 128) rfl rfl (by decide +kernel)) (
  mZ)))))
set_option maxRecDepth 20000 in
theorem ok_N_best : mAll (mOk RX10 cX10_best 9 true false (some .int) (mnat p_N_best)) 0 k_N_best := mA (i := 0) (ok_ald_n (f := 0) (pc := 0) rfl rfl rfl (by decide +kernel)) (
  mA (i := 1) (ok_ic (n := 0) (pc := 1) (by decide +kernel) rfl rfl (by decide +kernel)) (
  mA (i := 2) (ok_pI (pc := 2) rfl (by decide +kernel) wd_618 inw_11 tyX10_ok nmX10 rfl (by decide +kernel) rfl rfl (by decide +kernel)) (
  mA (i := 3) (ok_ild_n (f := 1) (pc := 5) rfl rfl rfl (by decide +kernel)) (
  mA (i := 4) (ok_callI (pc := 6) (can_S cal_N_isMode (by decide +kernel) wd_741 wd_740 wd_605 (by decide +kernel)) rfl rfl) (
  mA (i := 5) (ok_ifeq (off := 15) (pc := 9) (tgt := 24) rfl rfl rfl (by decide +kernel) (by decide +kernel)) (
  mA (i := 6) (ok_ild_n (f := 2) (pc := 12) rfl rfl rfl (by decide +kernel)) (
  mA (i := 7) (ok_i2l (pc := 13) rfl rfl (by decide +kernel)) (
  mA (i := 8) (ok_lc (n := 0) (pc := 14) (by decide +kernel) rfl rfl (by decide +kernel)) (
  mA (i := 9) (ok_ldc2 (pc := 15) wd_699 rfl rfl (by decide +kernel)) (
  mA (i := 10) (ok_callI (pc := 18) (can_S cal_N_within (by decide +kernel) wd_606 wd_604 wd_605 (by decide +kernel)) rfl rfl) (
  mA (i := 11) (ok_ifne (off := 6) (pc := 21) (tgt := 27) rfl rfl rfl (by decide +kernel) (by decide +kernel)) (
  mA (i := 12) (ok_bi (n := (-2)) (pc := 24) (by decide +kernel) rfl rfl (by decide +kernel)) (
  mA (i := 13) (ok_iret (pc := 26) rfl rfl (by decide +kernel)) (
  mA (i := 14) (ok_ald_n (f := 0) (pc := 27) rfl rfl rfl (by decide +kernel)) (
  mA (i := 15) (ok_ild_n (f := 1) (pc := 28) rfl rfl rfl (by decide +kernel)) (
  mA (i := 16) (ok_callV (pc := 29) (can_V cal_N_laysValues (by decide +kernel) rfl (by decide +kernel) rfl wd_772 wd_773 wd_774 wd_605 (by decide +kernel)) rfl rfl) (
  mA (i := 17) (ok_ic (n := 0) (pc := 32) (by decide +kernel) rfl rfl (by decide +kernel)) (
  mA (i := 18) (ok_ist_n (f := 3) (pc := 33) rfl (by decide +kernel) rfl rfl rfl (by decide +kernel)) (
  mA (i := 19) (ok_ic (n := 0) (pc := 34) (by decide +kernel) rfl rfl (by decide +kernel)) (
  mA (i := 20) (ok_ist (pc := 35) (by decide +kernel) rfl rfl rfl (by decide +kernel)) (
  mA (i := 21) (ok_ldcw (pc := 37) wd_739 rfl rfl (by decide +kernel)) (
  mA (i := 22) (ok_ist (pc := 40) (by decide +kernel) rfl rfl rfl (by decide +kernel)) (
  mA (i := 23) (ok_ic (n := 0) (pc := 42) (by decide +kernel) rfl rfl (by decide +kernel)) (
  mA (i := 24) (ok_ist (pc := 43) (by decide +kernel) rfl rfl rfl (by decide +kernel)) (
  mA (i := 25) (ok_ild (pc := 45) rfl rfl (by decide +kernel)) (
  mA (i := 26) (ok_bi (n := 40) (pc := 47) (by decide +kernel) rfl rfl (by decide +kernel)) (
  mA (i := 27) (ok_cge (off := 59) (pc := 49) (tgt := 108) rfl rfl rfl (by decide +kernel) (by decide +kernel)) (
  mA (i := 28) (ok_ild (pc := 52) rfl rfl (by decide +kernel)) (
  mA (i := 29) (ok_ic (n := 1) (pc := 54) (by decide +kernel) rfl rfl (by decide +kernel)) (
  mA (i := 30) (ok_add (pc := 55) rfl rfl (by decide +kernel)) (
  mA (i := 31) (ok_ist (pc := 56) (by decide +kernel) rfl rfl rfl (by decide +kernel)) (
  mA (i := 32) (ok_ild (pc := 58) rfl rfl (by decide +kernel)) (
  mA (i := 33) (ok_bi (n := 40) (pc := 60) (by decide +kernel) rfl rfl (by decide +kernel)) (
  mA (i := 34) (ok_cge (off := 40) (pc := 62) (tgt := 102) rfl rfl rfl (by decide +kernel) (by decide +kernel)) (
  mA (i := 35) (ok_ald_n (f := 0) (pc := 65) rfl rfl rfl (by decide +kernel)) (
  mA (i := 36) (ok_ild (pc := 66) rfl rfl (by decide +kernel)) (
  mA (i := 37) (ok_ild (pc := 68) rfl rfl (by decide +kernel)) (
  mA (i := 38) (ok_callI (pc := 70) (can_V cal_N_pairsBy (by decide +kernel) rfl (by decide +kernel) rfl wd_816 wd_817 wd_818 wd_605 (by decide +kernel)) rfl rfl) (
  mA (i := 39) (ok_ist (pc := 73) (by decide +kernel) rfl rfl rfl (by decide +kernel)) (
  mA (i := 40) (ok_ild (pc := 75) rfl rfl (by decide +kernel)) (
  mA (i := 41) (ok_ild (pc := 77) rfl rfl (by decide +kernel)) (
  mA (i := 42) (ok_clt (off := 6) (pc := 79) (tgt := 85) rfl rfl rfl (by decide +kernel) (by decide +kernel)) (
  mA (i := 43) (ok_goto (off := 14) (pc := 82) (tgt := 96) rfl rfl (by decide +kernel) (by decide +kernel)) (
  mA (i := 44) (ok_ild (pc := 85) rfl rfl (by decide +kernel)) (
  mA (i := 45) (ok_ist (pc := 87) (by decide +kernel) rfl rfl rfl (by decide +kernel)) (
  mA (i := 46) (ok_ild (pc := 89) rfl rfl (by decide +kernel)) (
  mA (i := 47) (ok_ist_n (f := 3) (pc := 91) rfl (by decide +kernel) rfl rfl rfl (by decide +kernel)) (
  mA (i := 48) (ok_ild (pc := 92) rfl rfl (by decide +kernel)) (
  mA (i := 49) (ok_ist (pc := 94) (by decide +kernel) rfl rfl rfl (by decide +kernel)) (
  mA (i := 50) (ok_inc (z := 1) (pc := 96) (by decide +kernel) (by decide +kernel) rfl rfl rfl (by decide +kernel)) (
  mA (i := 51) (ok_goto (off := (-41)) (pc := 99) (tgt := 58) rfl rfl (by decide +kernel) (by decide +kernel)) (
  mA (i := 52) (ok_inc (z := 1) (pc := 102) (by decide +kernel) (by decide +kernel) rfl rfl rfl (by decide +kernel)) (
  mA (i := 53) (ok_goto (off := (-60)) (pc := 105) (tgt := 45) rfl rfl (by decide +kernel) (by decide +kernel)) (
  mA (i := 54) (ok_ild_n (f := 2) (pc := 108) rfl rfl rfl (by decide +kernel)) (
  mA (i := 55) (ok_ifne (off := 8) (pc := 109) (tgt := 117) rfl rfl rfl (by decide +kernel) (by decide +kernel)) (
  mA (i := 56) (ok_ild (pc := 112) rfl rfl (by decide +kernel)) (
  mA (i := 57) (ok_goto (off := 14) (pc := 114) (tgt := 128) rfl rfl (by decide +kernel) (by decide +kernel)) (
  mA (i := 58) (ok_ild_n (f := 2) (pc := 117) rfl rfl rfl (by decide +kernel)) (
  mA (i := 59) (ok_ic (n := 1) (pc := 118) (by decide +kernel) rfl rfl (by decide +kernel)) (
  ok_N_best_t60))))))))))))))))))))))))))))))))))))))))))))))))))))))))))))
set_option maxRecDepth 20000 in
theorem ok_N_laysCovering : mAll (mOk RX10 cX10_laysCovering 4 true false none (mnat p_N_laysCovering)) 0 k_N_laysCovering := mA (i := 0) (ok_ic (n := 0) (pc := 0) (by decide +kernel) rfl rfl (by decide +kernel)) (
  mA (i := 1) (ok_ist_n (f := 2) (pc := 1) rfl (by decide +kernel) rfl rfl rfl (by decide +kernel)) (
  mA (i := 2) (ok_ild_n (f := 2) (pc := 2) rfl rfl rfl (by decide +kernel)) (
  mA (i := 3) (ok_bi (n := 24) (pc := 3) (by decide +kernel) rfl rfl (by decide +kernel)) (
  mA (i := 4) (ok_cge (off := 65) (pc := 5) (tgt := 70) rfl rfl rfl (by decide +kernel) (by decide +kernel)) (
  mA (i := 5) (ok_ic (n := 0) (pc := 8) (by decide +kernel) rfl rfl (by decide +kernel)) (
  mA (i := 6) (ok_ist_n (f := 3) (pc := 9) rfl (by decide +kernel) rfl rfl rfl (by decide +kernel)) (
  mA (i := 7) (ok_ild_n (f := 3) (pc := 10) rfl rfl rfl (by decide +kernel)) (
  mA (i := 8) (ok_bi (n := 24) (pc := 11) (by decide +kernel) rfl rfl (by decide +kernel)) (
  mA (i := 9) (ok_cge (off := 51) (pc := 13) (tgt := 64) rfl rfl rfl (by decide +kernel) (by decide +kernel)) (
  mA (i := 10) (ok_ald_n (f := 0) (pc := 16) rfl rfl rfl (by decide +kernel)) (
  mA (i := 11) (ok_gP (pc := 17) rfl (by decide +kernel) wd_601 inw_11 rfl rfl (by decide +kernel)) (
  mA (i := 12) (ok_bi (n := 24) (pc := 20) (by decide +kernel) rfl rfl (by decide +kernel)) (
  mA (i := 13) (ok_ild_n (f := 2) (pc := 22) rfl rfl rfl (by decide +kernel)) (
  mA (i := 14) (ok_mul (pc := 23) rfl rfl (by decide +kernel)) (
  mA (i := 15) (ok_ild_n (f := 3) (pc := 24) rfl rfl rfl (by decide +kernel)) (
  mA (i := 16) (ok_add (pc := 25) rfl rfl (by decide +kernel)) (
  mA (i := 17) (ok_ald_n (f := 0) (pc := 26) rfl rfl rfl (by decide +kernel)) (
  mA (i := 18) (ok_ild_n (f := 2) (pc := 27) rfl rfl rfl (by decide +kernel)) (
  mA (i := 19) (ok_callI (pc := 28) (can_V cal_N_isKept (by decide +kernel) rfl (by decide +kernel) rfl wd_688 wd_689 wd_690 wd_605 (by decide +kernel)) rfl rfl) (
  mA (i := 20) (ok_ifeq (off := 25) (pc := 31) (tgt := 56) rfl rfl rfl (by decide +kernel) (by decide +kernel)) (
  mA (i := 21) (ok_ald_n (f := 0) (pc := 34) rfl rfl rfl (by decide +kernel)) (
  mA (i := 22) (ok_ild_n (f := 3) (pc := 35) rfl rfl rfl (by decide +kernel)) (
  mA (i := 23) (ok_callI (pc := 36) (can_V cal_N_isKept (by decide +kernel) rfl (by decide +kernel) rfl wd_688 wd_689 wd_690 wd_605 (by decide +kernel)) rfl rfl) (
  mA (i := 24) (ok_ifeq (off := 17) (pc := 39) (tgt := 56) rfl rfl rfl (by decide +kernel) (by decide +kernel)) (
  mA (i := 25) (ok_ald_n (f := 0) (pc := 42) rfl rfl rfl (by decide +kernel)) (
  mA (i := 26) (ok_ild_n (f := 2) (pc := 43) rfl rfl rfl (by decide +kernel)) (
  mA (i := 27) (ok_ild_n (f := 3) (pc := 44) rfl rfl rfl (by decide +kernel)) (
  mA (i := 28) (ok_ild_n (f := 1) (pc := 45) rfl rfl rfl (by decide +kernel)) (
  mA (i := 29) (ok_callI (pc := 46) (can_V cal_N_doesCover (by decide +kernel) rfl (by decide +kernel) rfl wd_745 wd_746 wd_747 wd_605 (by decide +kernel)) rfl rfl) (
  mA (i := 30) (ok_ifeq (off := 7) (pc := 49) (tgt := 56) rfl rfl rfl (by decide +kernel) (by decide +kernel)) (
  mA (i := 31) (ok_ic (n := 1) (pc := 52) (by decide +kernel) rfl rfl (by decide +kernel)) (
  mA (i := 32) (ok_goto (off := 4) (pc := 53) (tgt := 57) rfl rfl (by decide +kernel) (by decide +kernel)) (
  mA (i := 33) (ok_ic (n := 0) (pc := 56) (by decide +kernel) rfl rfl (by decide +kernel)) (
  mA (i := 34) (ok_zast (pc := 57) rfl rfl (by decide +kernel)) (
  mA (i := 35) (ok_inc (z := 1) (pc := 58) (by decide +kernel) (by decide +kernel) rfl rfl rfl (by decide +kernel)) (
  mA (i := 36) (ok_goto (off := (-51)) (pc := 61) (tgt := 10) rfl rfl (by decide +kernel) (by decide +kernel)) (
  mA (i := 37) (ok_inc (z := 1) (pc := 64) (by decide +kernel) (by decide +kernel) rfl rfl rfl (by decide +kernel)) (
  mA (i := 38) (ok_goto (off := (-65)) (pc := 67) (tgt := 2) rfl rfl (by decide +kernel) (by decide +kernel)) (
  mA (i := 39) (ok_vret (pc := 70) rfl rfl (by decide +kernel)) (
  mZ))))))))))))))))))))))))))))))))))))))))
set_option maxRecDepth 20000 in
theorem ok_N_isMoreGeneral : mAll (mOk RX10 cX10_isMoreGeneral 3 true false (some .boolean) (mnat p_N_isMoreGeneral)) 0 k_N_isMoreGeneral := mA (i := 0) (ok_ald_n (f := 0) (pc := 0) rfl rfl rfl (by decide +kernel)) (
  mA (i := 1) (ok_gP (pc := 1) rfl (by decide +kernel) wd_601 inw_11 rfl rfl (by decide +kernel)) (
  mA (i := 2) (ok_bi (n := 24) (pc := 4) (by decide +kernel) rfl rfl (by decide +kernel)) (
  mA (i := 3) (ok_ild_n (f := 1) (pc := 6) rfl rfl rfl (by decide +kernel)) (
  mA (i := 4) (ok_mul (pc := 7) rfl rfl (by decide +kernel)) (
  mA (i := 5) (ok_ild_n (f := 2) (pc := 8) rfl rfl rfl (by decide +kernel)) (
  mA (i := 6) (ok_add (pc := 9) rfl rfl (by decide +kernel)) (
  mA (i := 7) (ok_zald (pc := 10) rfl rfl (by decide +kernel)) (
  mA (i := 8) (ok_ifeq (off := 21) (pc := 11) (tgt := 32) rfl rfl rfl (by decide +kernel) (by decide +kernel)) (
  mA (i := 9) (ok_ald_n (f := 0) (pc := 14) rfl rfl rfl (by decide +kernel)) (
  mA (i := 10) (ok_gP (pc := 15) rfl (by decide +kernel) wd_601 inw_11 rfl rfl (by decide +kernel)) (
  mA (i := 11) (ok_bi (n := 24) (pc := 18) (by decide +kernel) rfl rfl (by decide +kernel)) (
  mA (i := 12) (ok_ild_n (f := 2) (pc := 20) rfl rfl rfl (by decide +kernel)) (
  mA (i := 13) (ok_mul (pc := 21) rfl rfl (by decide +kernel)) (
  mA (i := 14) (ok_ild_n (f := 1) (pc := 22) rfl rfl rfl (by decide +kernel)) (
  mA (i := 15) (ok_add (pc := 23) rfl rfl (by decide +kernel)) (
  mA (i := 16) (ok_zald (pc := 24) rfl rfl (by decide +kernel)) (
  mA (i := 17) (ok_ifne (off := 7) (pc := 25) (tgt := 32) rfl rfl rfl (by decide +kernel) (by decide +kernel)) (
  mA (i := 18) (ok_ic (n := 1) (pc := 28) (by decide +kernel) rfl rfl (by decide +kernel)) (
  mA (i := 19) (ok_goto (off := 4) (pc := 29) (tgt := 33) rfl rfl (by decide +kernel) (by decide +kernel)) (
  mA (i := 20) (ok_ic (n := 0) (pc := 32) (by decide +kernel) rfl rfl (by decide +kernel)) (
  mA (i := 21) (ok_zret (pc := 33) rfl rfl (by decide +kernel)) (
  mZ))))))))))))))))))))))
set_option maxRecDepth 20000 in
theorem ok_N_redundantNow : mAll (mOk RX10 cX10_redundantNow 5 true false (some .int) (mnat p_N_redundantNow)) 0 k_N_redundantNow := mA (i := 0) (ok_ald_n (f := 0) (pc := 0) rfl rfl rfl (by decide +kernel)) (
  mA (i := 1) (ok_ild_n (f := 1) (pc := 1) rfl rfl rfl (by decide +kernel)) (
  mA (i := 2) (ok_callV (pc := 2) (can_V cal_N_laysCovering (by decide +kernel) rfl (by decide +kernel) rfl wd_819 wd_820 wd_821 wd_605 (by decide +kernel)) rfl rfl) (
  mA (i := 3) (ok_ic (n := 0) (pc := 5) (by decide +kernel) rfl rfl (by decide +kernel)) (
  mA (i := 4) (ok_ist_n (f := 2) (pc := 6) rfl (by decide +kernel) rfl rfl rfl (by decide +kernel)) (
  mA (i := 5) (ok_ic (n := 0) (pc := 7) (by decide +kernel) rfl rfl (by decide +kernel)) (
  mA (i := 6) (ok_ist_n (f := 3) (pc := 8) rfl (by decide +kernel) rfl rfl rfl (by decide +kernel)) (
  mA (i := 7) (ok_ild_n (f := 3) (pc := 9) rfl rfl rfl (by decide +kernel)) (
  mA (i := 8) (ok_bi (n := 24) (pc := 10) (by decide +kernel) rfl rfl (by decide +kernel)) (
  mA (i := 9) (ok_cge (off := 73) (pc := 12) (tgt := 85) rfl rfl rfl (by decide +kernel) (by decide +kernel)) (
  mA (i := 10) (ok_ic (n := 0) (pc := 15) (by decide +kernel) rfl rfl (by decide +kernel)) (
  mA (i := 11) (ok_ist (pc := 16) (by decide +kernel) rfl rfl rfl (by decide +kernel)) (
  mA (i := 12) (ok_ild (pc := 18) rfl rfl (by decide +kernel)) (
  mA (i := 13) (ok_bi (n := 24) (pc := 20) (by decide +kernel) rfl rfl (by decide +kernel)) (
  mA (i := 14) (ok_cge (off := 57) (pc := 22) (tgt := 79) rfl rfl rfl (by decide +kernel) (by decide +kernel)) (
  mA (i := 15) (ok_ild_n (f := 3) (pc := 25) rfl rfl rfl (by decide +kernel)) (
  mA (i := 16) (ok_ild (pc := 26) rfl rfl (by decide +kernel)) (
  mA (i := 17) (ok_ceq (off := 45) (pc := 28) (tgt := 73) rfl rfl rfl (by decide +kernel) (by decide +kernel)) (
  mA (i := 18) (ok_ald_n (f := 0) (pc := 31) rfl rfl rfl (by decide +kernel)) (
  mA (i := 19) (ok_gP (pc := 32) rfl (by decide +kernel) wd_601 inw_11 rfl rfl (by decide +kernel)) (
  mA (i := 20) (ok_bi (n := 24) (pc := 35) (by decide +kernel) rfl rfl (by decide +kernel)) (
  mA (i := 21) (ok_ild (pc := 37) rfl rfl (by decide +kernel)) (
  mA (i := 22) (ok_mul (pc := 39) rfl rfl (by decide +kernel)) (
  mA (i := 23) (ok_ild_n (f := 3) (pc := 40) rfl rfl rfl (by decide +kernel)) (
  mA (i := 24) (ok_add (pc := 41) rfl rfl (by decide +kernel)) (
  mA (i := 25) (ok_zald (pc := 42) rfl rfl (by decide +kernel)) (
  mA (i := 26) (ok_ifeq (off := 30) (pc := 43) (tgt := 73) rfl rfl rfl (by decide +kernel) (by decide +kernel)) (
  mA (i := 27) (ok_ald_n (f := 0) (pc := 46) rfl rfl rfl (by decide +kernel)) (
  mA (i := 28) (ok_gP (pc := 47) rfl (by decide +kernel) wd_601 inw_11 rfl rfl (by decide +kernel)) (
  mA (i := 29) (ok_bi (n := 24) (pc := 50) (by decide +kernel) rfl rfl (by decide +kernel)) (
  mA (i := 30) (ok_ild_n (f := 3) (pc := 52) rfl rfl rfl (by decide +kernel)) (
  mA (i := 31) (ok_mul (pc := 53) rfl rfl (by decide +kernel)) (
  mA (i := 32) (ok_ild (pc := 54) rfl rfl (by decide +kernel)) (
  mA (i := 33) (ok_add (pc := 56) rfl rfl (by decide +kernel)) (
  mA (i := 34) (ok_zald (pc := 57) rfl rfl (by decide +kernel)) (
  mA (i := 35) (ok_ifeq (off := 9) (pc := 58) (tgt := 67) rfl rfl rfl (by decide +kernel) (by decide +kernel)) (
  mA (i := 36) (ok_ild (pc := 61) rfl rfl (by decide +kernel)) (
  mA (i := 37) (ok_ild_n (f := 3) (pc := 63) rfl rfl rfl (by decide +kernel)) (
  mA (i := 38) (ok_cge (off := 9) (pc := 64) (tgt := 73) rfl rfl rfl (by decide +kernel) (by decide +kernel)) (
  mA (i := 39) (ok_ild_n (f := 2) (pc := 67) rfl rfl rfl (by decide +kernel)) (
  mA (i := 40) (ok_ic (n := 1) (pc := 68) (by decide +kernel) rfl rfl (by decide +kernel)) (
  mA (i := 41) (ok_ild_n (f := 3) (pc := 69) rfl rfl rfl (by decide +kernel)) (
  mA (i := 42) (ok_shl (pc := 70) rfl rfl (by decide +kernel)) (
  mA (i := 43) (ok_or (pc := 71) rfl rfl (by decide +kernel)) (
  mA (i := 44) (ok_ist_n (f := 2) (pc := 72) rfl (by decide +kernel) rfl rfl rfl (by decide +kernel)) (
  mA (i := 45) (ok_inc (z := 1) (pc := 73) (by decide +kernel) (by decide +kernel) rfl rfl rfl (by decide +kernel)) (
  mA (i := 46) (ok_goto (off := (-58)) (pc := 76) (tgt := 18) rfl rfl (by decide +kernel) (by decide +kernel)) (
  mA (i := 47) (ok_inc (z := 1) (pc := 79) (by decide +kernel) (by decide +kernel) rfl rfl rfl (by decide +kernel)) (
  mA (i := 48) (ok_goto (off := (-73)) (pc := 82) (tgt := 9) rfl rfl (by decide +kernel) (by decide +kernel)) (
  mA (i := 49) (ok_ild_n (f := 2) (pc := 85) rfl rfl rfl (by decide +kernel)) (
  mA (i := 50) (ok_iret (pc := 86) rfl rfl (by decide +kernel)) (
  mZ)))))))))))))))))))))))))))))))))))))))))))))))))))
set_option maxRecDepth 20000 in
theorem ok_N_redundant : mAll (mOk RX10 cX10_redundant 2 true false (some .int) (mnat p_N_redundant)) 0 k_N_redundant := mA (i := 0) (ok_ald_n (f := 0) (pc := 0) rfl rfl rfl (by decide +kernel)) (
  mA (i := 1) (ok_ic (n := 0) (pc := 1) (by decide +kernel) rfl rfl (by decide +kernel)) (
  mA (i := 2) (ok_pI (pc := 2) rfl (by decide +kernel) wd_618 inw_11 tyX10_ok nmX10 rfl (by decide +kernel) rfl rfl (by decide +kernel)) (
  mA (i := 3) (ok_ild_n (f := 1) (pc := 5) rfl rfl rfl (by decide +kernel)) (
  mA (i := 4) (ok_callI (pc := 6) (can_S cal_N_isMode (by decide +kernel) wd_741 wd_740 wd_605 (by decide +kernel)) rfl rfl) (
  mA (i := 5) (ok_ifeq (off := 11) (pc := 9) (tgt := 20) rfl rfl rfl (by decide +kernel) (by decide +kernel)) (
  mA (i := 6) (ok_ald_n (f := 0) (pc := 12) rfl rfl rfl (by decide +kernel)) (
  mA (i := 7) (ok_ild_n (f := 1) (pc := 13) rfl rfl rfl (by decide +kernel)) (
  mA (i := 8) (ok_callI (pc := 14) (can_V cal_N_redundantNow (by decide +kernel) rfl (by decide +kernel) rfl wd_822 wd_823 wd_824 wd_605 (by decide +kernel)) rfl rfl) (
  mA (i := 9) (ok_goto (off := 5) (pc := 17) (tgt := 22) rfl rfl (by decide +kernel) (by decide +kernel)) (
  mA (i := 10) (ok_bi (n := (-2)) (pc := 20) (by decide +kernel) rfl rfl (by decide +kernel)) (
  mA (i := 11) (ok_iret (pc := 22) rfl rfl (by decide +kernel)) (
  mZ))))))))))))
set_option maxRecDepth 20000 in
theorem ok_N_clean : mAll (mOk RX10 cX10_clean 5 true false (some .int) (mnat p_N_clean)) 0 k_N_clean := mA (i := 0) (ok_ald_n (f := 0) (pc := 0) rfl rfl rfl (by decide +kernel)) (
  mA (i := 1) (ok_ic (n := 0) (pc := 1) (by decide +kernel) rfl rfl (by decide +kernel)) (
  mA (i := 2) (ok_pI (pc := 2) rfl (by decide +kernel) wd_618 inw_11 tyX10_ok nmX10 rfl (by decide +kernel) rfl rfl (by decide +kernel)) (
  mA (i := 3) (ok_ild_n (f := 1) (pc := 5) rfl rfl rfl (by decide +kernel)) (
  mA (i := 4) (ok_callI (pc := 6) (can_S cal_N_isMode (by decide +kernel) wd_741 wd_740 wd_605 (by decide +kernel)) rfl rfl) (
  mA (i := 5) (ok_ifne (off := 6) (pc := 9) (tgt := 15) rfl rfl rfl (by decide +kernel) (by decide +kernel)) (
  mA (i := 6) (ok_bi (n := (-2)) (pc := 12) (by decide +kernel) rfl rfl (by decide +kernel)) (
  mA (i := 7) (ok_iret (pc := 14) rfl rfl (by decide +kernel)) (
  mA (i := 8) (ok_ald_n (f := 0) (pc := 15) rfl rfl rfl (by decide +kernel)) (
  mA (i := 9) (ok_ild_n (f := 1) (pc := 16) rfl rfl rfl (by decide +kernel)) (
  mA (i := 10) (ok_callI (pc := 17) (can_V cal_N_redundantNow (by decide +kernel) rfl (by decide +kernel) rfl wd_822 wd_823 wd_824 wd_605 (by decide +kernel)) rfl rfl) (
  mA (i := 11) (ok_ist_n (f := 2) (pc := 20) rfl (by decide +kernel) rfl rfl rfl (by decide +kernel)) (
  mA (i := 12) (ok_ild_n (f := 2) (pc := 21) rfl rfl rfl (by decide +kernel)) (
  mA (i := 13) (ok_ic (n := (-1)) (pc := 22) (by decide +kernel) rfl rfl (by decide +kernel)) (
  mA (i := 14) (ok_callI (pc := 23) (can_S cal_N_told (by decide +kernel) wd_805 wd_804 wd_605 (by decide +kernel)) rfl rfl) (
  mA (i := 15) (ok_ist_n (f := 3) (pc := 26) rfl (by decide +kernel) rfl rfl rfl (by decide +kernel)) (
  mA (i := 16) (ok_ild_n (f := 3) (pc := 27) rfl rfl rfl (by decide +kernel)) (
  mA (i := 17) (ok_ifle (off := 7) (pc := 28) (tgt := 35) rfl rfl rfl (by decide +kernel) (by decide +kernel)) (
  mA (i := 18) (ok_ald_n (f := 0) (pc := 31) rfl rfl rfl (by decide +kernel)) (
  mA (i := 19) (ok_callV (pc := 32) (can_V cal_N_notes (by decide +kernel) rfl (by decide +kernel) rfl wd_665 wd_666 wd_667 wd_605 (by decide +kernel)) rfl rfl) (
  mA (i := 20) (ok_ic (n := 0) (pc := 35) (by decide +kernel) rfl rfl (by decide +kernel)) (
  mA (i := 21) (ok_ist (pc := 36) (by decide +kernel) rfl rfl rfl (by decide +kernel)) (
  mA (i := 22) (ok_ild (pc := 38) rfl rfl (by decide +kernel)) (
  mA (i := 23) (ok_bi (n := 24) (pc := 40) (by decide +kernel) rfl rfl (by decide +kernel)) (
  mA (i := 24) (ok_cge (off := 25) (pc := 42) (tgt := 67) rfl rfl rfl (by decide +kernel) (by decide +kernel)) (
  mA (i := 25) (ok_ild_n (f := 2) (pc := 45) rfl rfl rfl (by decide +kernel)) (
  mA (i := 26) (ok_ild (pc := 46) rfl rfl (by decide +kernel)) (
  mA (i := 27) (ok_shr (pc := 48) rfl rfl (by decide +kernel)) (
  mA (i := 28) (ok_ic (n := 1) (pc := 49) (by decide +kernel) rfl rfl (by decide +kernel)) (
  mA (i := 29) (ok_and (pc := 50) rfl rfl (by decide +kernel)) (
  mA (i := 30) (ok_ic (n := 1) (pc := 51) (by decide +kernel) rfl rfl (by decide +kernel)) (
  mA (i := 31) (ok_cne (off := 9) (pc := 52) (tgt := 61) rfl rfl rfl (by decide +kernel) (by decide +kernel)) (
  mA (i := 32) (ok_ald_n (f := 0) (pc := 55) rfl rfl rfl (by decide +kernel)) (
  mA (i := 33) (ok_ild (pc := 56) rfl rfl (by decide +kernel)) (
  mA (i := 34) (ok_callV (pc := 58) (can_V cal_N_goes (by decide +kernel) rfl (by decide +kernel) rfl wd_691 wd_692 wd_693 wd_605 (by decide +kernel)) rfl rfl) (
  mA (i := 35) (ok_inc (z := 1) (pc := 61) (by decide +kernel) (by decide +kernel) rfl rfl rfl (by decide +kernel)) (
  mA (i := 36) (ok_goto (off := (-26)) (pc := 64) (tgt := 38) rfl rfl (by decide +kernel) (by decide +kernel)) (
  mA (i := 37) (ok_ild_n (f := 3) (pc := 67) rfl rfl rfl (by decide +kernel)) (
  mA (i := 38) (ok_iret (pc := 68) rfl rfl (by decide +kernel)) (
  mZ)))))))))))))))))))))))))))))))))))))))
set_option maxRecDepth 20000 in
theorem ok_N_tops : mAll (mOk RX10 cX10_tops 6 true false (some .int) (mnat p_N_tops)) 0 k_N_tops := mA (i := 0) (ok_ald_n (f := 0) (pc := 0) rfl rfl rfl (by decide +kernel)) (
  mA (i := 1) (ok_ic (n := 0) (pc := 1) (by decide +kernel) rfl rfl (by decide +kernel)) (
  mA (i := 2) (ok_pI (pc := 2) rfl (by decide +kernel) wd_618 inw_11 tyX10_ok nmX10 rfl (by decide +kernel) rfl rfl (by decide +kernel)) (
  mA (i := 3) (ok_ild_n (f := 1) (pc := 5) rfl rfl rfl (by decide +kernel)) (
  mA (i := 4) (ok_callI (pc := 6) (can_S cal_N_isMode (by decide +kernel) wd_741 wd_740 wd_605 (by decide +kernel)) rfl rfl) (
  mA (i := 5) (ok_ifne (off := 6) (pc := 9) (tgt := 15) rfl rfl rfl (by decide +kernel) (by decide +kernel)) (
  mA (i := 6) (ok_bi (n := (-2)) (pc := 12) (by decide +kernel) rfl rfl (by decide +kernel)) (
  mA (i := 7) (ok_iret (pc := 14) rfl rfl (by decide +kernel)) (
  mA (i := 8) (ok_ald_n (f := 0) (pc := 15) rfl rfl rfl (by decide +kernel)) (
  mA (i := 9) (ok_ild_n (f := 1) (pc := 16) rfl rfl rfl (by decide +kernel)) (
  mA (i := 10) (ok_callV (pc := 17) (can_V cal_N_laysCovering (by decide +kernel) rfl (by decide +kernel) rfl wd_819 wd_820 wd_821 wd_605 (by decide +kernel)) rfl rfl) (
  mA (i := 11) (ok_ic (n := 0) (pc := 20) (by decide +kernel) rfl rfl (by decide +kernel)) (
  mA (i := 12) (ok_ist_n (f := 2) (pc := 21) rfl (by decide +kernel) rfl rfl rfl (by decide +kernel)) (
  mA (i := 13) (ok_ic (n := 0) (pc := 22) (by decide +kernel) rfl rfl (by decide +kernel)) (
  mA (i := 14) (ok_ist_n (f := 3) (pc := 23) rfl (by decide +kernel) rfl rfl rfl (by decide +kernel)) (
  mA (i := 15) (ok_ild_n (f := 3) (pc := 24) rfl rfl rfl (by decide +kernel)) (
  mA (i := 16) (ok_bi (n := 24) (pc := 25) (by decide +kernel) rfl rfl (by decide +kernel)) (
  mA (i := 17) (ok_cge (off := 67) (pc := 27) (tgt := 94) rfl rfl rfl (by decide +kernel) (by decide +kernel)) (
  mA (i := 18) (ok_ald_n (f := 0) (pc := 30) rfl rfl rfl (by decide +kernel)) (
  mA (i := 19) (ok_ild_n (f := 3) (pc := 31) rfl rfl rfl (by decide +kernel)) (
  mA (i := 20) (ok_callI (pc := 32) (can_V cal_N_isKept (by decide +kernel) rfl (by decide +kernel) rfl wd_688 wd_689 wd_690 wd_605 (by decide +kernel)) rfl rfl) (
  mA (i := 21) (ok_ist (pc := 35) (by decide +kernel) rfl rfl rfl (by decide +kernel)) (
  mA (i := 22) (ok_ic (n := 0) (pc := 37) (by decide +kernel) rfl rfl (by decide +kernel)) (
  mA (i := 23) (ok_ist (pc := 38) (by decide +kernel) rfl rfl rfl (by decide +kernel)) (
  mA (i := 24) (ok_ild (pc := 40) rfl rfl (by decide +kernel)) (
  mA (i := 25) (ok_bi (n := 24) (pc := 42) (by decide +kernel) rfl rfl (by decide +kernel)) (
  mA (i := 26) (ok_cge (off := 29) (pc := 44) (tgt := 73) rfl rfl rfl (by decide +kernel) (by decide +kernel)) (
  mA (i := 27) (ok_ild (pc := 47) rfl rfl (by decide +kernel)) (
  mA (i := 28) (ok_ald_n (f := 0) (pc := 49) rfl rfl rfl (by decide +kernel)) (
  mA (i := 29) (ok_ild (pc := 50) rfl rfl (by decide +kernel)) (
  mA (i := 30) (ok_ild_n (f := 3) (pc := 52) rfl rfl rfl (by decide +kernel)) (
  mA (i := 31) (ok_callI (pc := 53) (can_V cal_N_isMoreGeneral (by decide +kernel) rfl (by decide +kernel) rfl wd_825 wd_826 wd_827 wd_605 (by decide +kernel)) rfl rfl) (
  mA (i := 32) (ok_ifne (off := 7) (pc := 56) (tgt := 63) rfl rfl rfl (by decide +kernel) (by decide +kernel)) (
  mA (i := 33) (ok_ic (n := 1) (pc := 59) (by decide +kernel) rfl rfl (by decide +kernel)) (
  mA (i := 34) (ok_goto (off := 4) (pc := 60) (tgt := 64) rfl rfl (by decide +kernel) (by decide +kernel)) (
  mA (i := 35) (ok_ic (n := 0) (pc := 63) (by decide +kernel) rfl rfl (by decide +kernel)) (
  mA (i := 36) (ok_and (pc := 64) rfl rfl (by decide +kernel)) (
  mA (i := 37) (ok_ist (pc := 65) (by decide +kernel) rfl rfl rfl (by decide +kernel)) (
  mA (i := 38) (ok_inc (z := 1) (pc := 67) (by decide +kernel) (by decide +kernel) rfl rfl rfl (by decide +kernel)) (
  mA (i := 39) (ok_goto (off := (-30)) (pc := 70) (tgt := 40) rfl rfl (by decide +kernel) (by decide +kernel)) (
  mA (i := 40) (ok_ild_n (f := 2) (pc := 73) rfl rfl rfl (by decide +kernel)) (
  mA (i := 41) (ok_ild (pc := 74) rfl rfl (by decide +kernel)) (
  mA (i := 42) (ok_ifeq (off := 9) (pc := 76) (tgt := 85) rfl rfl rfl (by decide +kernel) (by decide +kernel)) (
  mA (i := 43) (ok_ic (n := 1) (pc := 79) (by decide +kernel) rfl rfl (by decide +kernel)) (
  mA (i := 44) (ok_ild_n (f := 3) (pc := 80) rfl rfl rfl (by decide +kernel)) (
  mA (i := 45) (ok_shl (pc := 81) rfl rfl (by decide +kernel)) (
  mA (i := 46) (ok_goto (off := 4) (pc := 82) (tgt := 86) rfl rfl (by decide +kernel) (by decide +kernel)) (
  mA (i := 47) (ok_ic (n := 0) (pc := 85) (by decide +kernel) rfl rfl (by decide +kernel)) (
  mA (i := 48) (ok_or (pc := 86) rfl rfl (by decide +kernel)) (
  mA (i := 49) (ok_ist_n (f := 2) (pc := 87) rfl (by decide +kernel) rfl rfl rfl (by decide +kernel)) (
  mA (i := 50) (ok_inc (z := 1) (pc := 88) (by decide +kernel) (by decide +kernel) rfl rfl rfl (by decide +kernel)) (
  mA (i := 51) (ok_goto (off := (-67)) (pc := 91) (tgt := 24) rfl rfl (by decide +kernel) (by decide +kernel)) (
  mA (i := 52) (ok_ild_n (f := 2) (pc := 94) rfl rfl rfl (by decide +kernel)) (
  mA (i := 53) (ok_iret (pc := 95) rfl rfl (by decide +kernel)) (
  mZ))))))))))))))))))))))))))))))))))))))))))))))))))))))
set_option maxRecDepth 20000 in
theorem ok_N_laysChains_t60 : mAll (mOk RX10 cX10_laysChains 4 true false (some .int) (mnat p_N_laysChains)) 60 [o_goto 25, o_inc 1 (nI 1), o_goto 20, o_ic (nI 0), o_ist 1, o_ic (nI 0), o_ist 2, o_ild 2, o_ic (nI 24), o_cge 85, o_ald 0, o_gP 11 47, o_ild 2, o_ald4 21, o_ild 1, o_cle 81, o_ald 0, o_gP 11 47, o_ild 2, o_ald4 21, o_goto 82, o_ild 1, o_ist 1, o_inc 2 (nI 1), o_goto 67, o_ild 1, o_iret] := mA (i := 60) (ok_goto (off := (-61)) (pc := 104) (tgt := 43) rfl rfl (by decide +kernel) (by decide +kernel)) (
  mA (i := 61) (ok_inc (z := 1) (pc := 107) (by decide +kernel) (by decide +kernel) rfl rfl rfl (by decide +kernel)) (
  mA (i := 62) (ok_goto (off := (-75)) (pc := 110) (tgt := 35) rfl rfl (by decide +kernel) (by decide +kernel)) (
  mA (i := 63) (ok_ic (n := 0) (pc := 113) (by decide +kernel) rfl rfl (by decide +kernel)) (
  mA (i := 64) (ok_ist_n (f := 1) (pc := 114) rfl (by decide +kernel) rfl rfl rfl (by decide +kernel)) (
  mA (i := 65) (ok_ic (n := 0) (pc := 115) (by decide +kernel) rfl rfl (by decide +kernel)) (
  mA (i := 66) (ok_ist_n (f := 2) (pc := 116) rfl (by decide +kernel) rfl rfl rfl (by decide +kernel)) (
  mA (i := 67) (ok_ild_n (f := 2) (pc := 117) rfl rfl rfl (by decide +kernel)) (
  mA (i := 68) (ok_bi (n := 24) (pc := 118) (by decide +kernel) rfl rfl (by decide +kernel)) (
  mA (i := 69) (ok_cge (off := 30) (pc := 120) (tgt := 150) rfl rfl rfl (by decide +kernel) (by decide +kernel)) (
  mA (i := 70) (ok_ald_n (f := 0) (pc := 123) rfl rfl rfl (by decide +kernel)) (
  mA (i := 71) (ok_gP (pc := 124) rfl (by decide +kernel) wd_602 inw_11 rfl rfl (by decide +kernel)) (
  mA (i := 72) (ok_ild_n (f := 2) (pc := 127) rfl rfl rfl (by decide +kernel)) (
  mA (i := 73) (ok_iald (pc := 128) rfl rfl (by decide +kernel)) (
  mA (i := 74) (ok_ild_n (f := 1) (pc := 129) rfl rfl rfl (by decide +kernel)) (
  mA (i := 75) (ok_cle (off := 12) (pc := 130) (tgt := 142) rfl rfl rfl (by decide +kernel) (by decide +kernel)) (
  mA (i := 76) (ok_ald_n (f := 0) (pc := 133) rfl rfl rfl (by decide +kernel)) (
  mA (i := 77) (ok_gP (pc := 134) rfl (by decide +kernel) wd_602 inw_11 rfl rfl (by decide +kernel)) (
  mA (i := 78) (ok_ild_n (f := 2) (pc := 137) rfl rfl rfl (by decide +kernel)) (
  mA (i := 79) (ok_iald (pc := 138) rfl rfl (by decide +kernel)) (
  mA (i := 80) (ok_goto (off := 4) (pc := 139) (tgt := 143) rfl rfl (by decide +kernel) (by decide +kernel)) (
  mA (i := 81) (ok_ild_n (f := 1) (pc := 142) rfl rfl rfl (by decide +kernel)) (
  mA (i := 82) (ok_ist_n (f := 1) (pc := 143) rfl (by decide +kernel) rfl rfl rfl (by decide +kernel)) (
  mA (i := 83) (ok_inc (z := 1) (pc := 144) (by decide +kernel) (by decide +kernel) rfl rfl rfl (by decide +kernel)) (
  mA (i := 84) (ok_goto (off := (-30)) (pc := 147) (tgt := 117) rfl rfl (by decide +kernel) (by decide +kernel)) (
  mA (i := 85) (ok_ild_n (f := 1) (pc := 150) rfl rfl rfl (by decide +kernel)) (
  mA (i := 86) (ok_iret (pc := 151) rfl rfl (by decide +kernel)) (
  mZ)))))))))))))))))))))))))))
set_option maxRecDepth 20000 in
theorem ok_N_laysChains : mAll (mOk RX10 cX10_laysChains 4 true false (some .int) (mnat p_N_laysChains)) 0 k_N_laysChains := mA (i := 0) (ok_ic (n := 0) (pc := 0) (by decide +kernel) rfl rfl (by decide +kernel)) (
  mA (i := 1) (ok_ist_n (f := 1) (pc := 1) rfl (by decide +kernel) rfl rfl rfl (by decide +kernel)) (
  mA (i := 2) (ok_ild_n (f := 1) (pc := 2) rfl rfl rfl (by decide +kernel)) (
  mA (i := 3) (ok_bi (n := 24) (pc := 3) (by decide +kernel) rfl rfl (by decide +kernel)) (
  mA (i := 4) (ok_cge (off := 28) (pc := 5) (tgt := 33) rfl rfl rfl (by decide +kernel) (by decide +kernel)) (
  mA (i := 5) (ok_ald_n (f := 0) (pc := 8) rfl rfl rfl (by decide +kernel)) (
  mA (i := 6) (ok_gP (pc := 9) rfl (by decide +kernel) wd_602 inw_11 rfl rfl (by decide +kernel)) (
  mA (i := 7) (ok_ild_n (f := 1) (pc := 12) rfl rfl rfl (by decide +kernel)) (
  mA (i := 8) (ok_ald_n (f := 0) (pc := 13) rfl rfl rfl (by decide +kernel)) (
  mA (i := 9) (ok_ild_n (f := 1) (pc := 14) rfl rfl rfl (by decide +kernel)) (
  mA (i := 10) (ok_callI (pc := 15) (can_V cal_N_isKept (by decide +kernel) rfl (by decide +kernel) rfl wd_688 wd_689 wd_690 wd_605 (by decide +kernel)) rfl rfl) (
  mA (i := 11) (ok_ifeq (off := 7) (pc := 18) (tgt := 25) rfl rfl rfl (by decide +kernel) (by decide +kernel)) (
  mA (i := 12) (ok_ic (n := 1) (pc := 21) (by decide +kernel) rfl rfl (by decide +kernel)) (
  mA (i := 13) (ok_goto (off := 4) (pc := 22) (tgt := 26) rfl rfl (by decide +kernel) (by decide +kernel)) (
  mA (i := 14) (ok_ic (n := 0) (pc := 25) (by decide +kernel) rfl rfl (by decide +kernel)) (
  mA (i := 15) (ok_iast (pc := 26) rfl rfl (by decide +kernel)) (
  mA (i := 16) (ok_inc (z := 1) (pc := 27) (by decide +kernel) (by decide +kernel) rfl rfl rfl (by decide +kernel)) (
  mA (i := 17) (ok_goto (off := (-28)) (pc := 30) (tgt := 2) rfl rfl (by decide +kernel) (by decide +kernel)) (
  mA (i := 18) (ok_ic (n := 0) (pc := 33) (by decide +kernel) rfl rfl (by decide +kernel)) (
  mA (i := 19) (ok_ist_n (f := 1) (pc := 34) rfl (by decide +kernel) rfl rfl rfl (by decide +kernel)) (
  mA (i := 20) (ok_ild_n (f := 1) (pc := 35) rfl rfl rfl (by decide +kernel)) (
  mA (i := 21) (ok_bi (n := 24) (pc := 36) (by decide +kernel) rfl rfl (by decide +kernel)) (
  mA (i := 22) (ok_cge (off := 75) (pc := 38) (tgt := 113) rfl rfl rfl (by decide +kernel) (by decide +kernel)) (
  mA (i := 23) (ok_ic (n := 0) (pc := 41) (by decide +kernel) rfl rfl (by decide +kernel)) (
  mA (i := 24) (ok_ist_n (f := 2) (pc := 42) rfl (by decide +kernel) rfl rfl rfl (by decide +kernel)) (
  mA (i := 25) (ok_ild_n (f := 2) (pc := 43) rfl rfl rfl (by decide +kernel)) (
  mA (i := 26) (ok_bi (n := 24) (pc := 44) (by decide +kernel) rfl rfl (by decide +kernel)) (
  mA (i := 27) (ok_cge (off := 61) (pc := 46) (tgt := 107) rfl rfl rfl (by decide +kernel) (by decide +kernel)) (
  mA (i := 28) (ok_ic (n := 0) (pc := 49) (by decide +kernel) rfl rfl (by decide +kernel)) (
  mA (i := 29) (ok_ist_n (f := 3) (pc := 50) rfl (by decide +kernel) rfl rfl rfl (by decide +kernel)) (
  mA (i := 30) (ok_ild_n (f := 3) (pc := 51) rfl rfl rfl (by decide +kernel)) (
  mA (i := 31) (ok_bi (n := 24) (pc := 52) (by decide +kernel) rfl rfl (by decide +kernel)) (
  mA (i := 32) (ok_cge (off := 47) (pc := 54) (tgt := 101) rfl rfl rfl (by decide +kernel) (by decide +kernel)) (
  mA (i := 33) (ok_ald_n (f := 0) (pc := 57) rfl rfl rfl (by decide +kernel)) (
  mA (i := 34) (ok_ild_n (f := 2) (pc := 58) rfl rfl rfl (by decide +kernel)) (
  mA (i := 35) (ok_ild_n (f := 3) (pc := 59) rfl rfl rfl (by decide +kernel)) (
  mA (i := 36) (ok_callI (pc := 60) (can_V cal_N_isMoreGeneral (by decide +kernel) rfl (by decide +kernel) rfl wd_825 wd_826 wd_827 wd_605 (by decide +kernel)) rfl rfl) (
  mA (i := 37) (ok_ifeq (off := 32) (pc := 63) (tgt := 95) rfl rfl rfl (by decide +kernel) (by decide +kernel)) (
  mA (i := 38) (ok_ald_n (f := 0) (pc := 66) rfl rfl rfl (by decide +kernel)) (
  mA (i := 39) (ok_gP (pc := 67) rfl (by decide +kernel) wd_602 inw_11 rfl rfl (by decide +kernel)) (
  mA (i := 40) (ok_ild_n (f := 3) (pc := 70) rfl rfl rfl (by decide +kernel)) (
  mA (i := 41) (ok_iald (pc := 71) rfl rfl (by decide +kernel)) (
  mA (i := 42) (ok_ald_n (f := 0) (pc := 72) rfl rfl rfl (by decide +kernel)) (
  mA (i := 43) (ok_gP (pc := 73) rfl (by decide +kernel) wd_602 inw_11 rfl rfl (by decide +kernel)) (
  mA (i := 44) (ok_ild_n (f := 2) (pc := 76) rfl rfl rfl (by decide +kernel)) (
  mA (i := 45) (ok_iald (pc := 77) rfl rfl (by decide +kernel)) (
  mA (i := 46) (ok_clt (off := 17) (pc := 78) (tgt := 95) rfl rfl rfl (by decide +kernel) (by decide +kernel)) (
  mA (i := 47) (ok_ald_n (f := 0) (pc := 81) rfl rfl rfl (by decide +kernel)) (
  mA (i := 48) (ok_gP (pc := 82) rfl (by decide +kernel) wd_602 inw_11 rfl rfl (by decide +kernel)) (
  mA (i := 49) (ok_ild_n (f := 2) (pc := 85) rfl rfl rfl (by decide +kernel)) (
  mA (i := 50) (ok_ald_n (f := 0) (pc := 86) rfl rfl rfl (by decide +kernel)) (
  mA (i := 51) (ok_gP (pc := 87) rfl (by decide +kernel) wd_602 inw_11 rfl rfl (by decide +kernel)) (
  mA (i := 52) (ok_ild_n (f := 3) (pc := 90) rfl rfl rfl (by decide +kernel)) (
  mA (i := 53) (ok_iald (pc := 91) rfl rfl (by decide +kernel)) (
  mA (i := 54) (ok_ic (n := 1) (pc := 92) (by decide +kernel) rfl rfl (by decide +kernel)) (
  mA (i := 55) (ok_add (pc := 93) rfl rfl (by decide +kernel)) (
  mA (i := 56) (ok_iast (pc := 94) rfl rfl (by decide +kernel)) (
  mA (i := 57) (ok_inc (z := 1) (pc := 95) (by decide +kernel) (by decide +kernel) rfl rfl rfl (by decide +kernel)) (
  mA (i := 58) (ok_goto (off := (-47)) (pc := 98) (tgt := 51) rfl rfl (by decide +kernel) (by decide +kernel)) (
  mA (i := 59) (ok_inc (z := 1) (pc := 101) (by decide +kernel) (by decide +kernel) rfl rfl rfl (by decide +kernel)) (
  ok_N_laysChains_t60))))))))))))))))))))))))))))))))))))))))))))))))))))))))))))
set_option maxRecDepth 20000 in
theorem ok_N_chain_t60 : mAll (mOk RX10 cX10_chain 7 true false (some .int) (mnat p_N_chain)) 60 [o_ild 4, o_iret] := mA (i := 60) (ok_ild (pc := 109) rfl rfl (by decide +kernel)) (
  mA (i := 61) (ok_iret (pc := 111) rfl rfl (by decide +kernel)) (
  mZ))
set_option maxRecDepth 20000 in
theorem ok_N_chain : mAll (mOk RX10 cX10_chain 7 true false (some .int) (mnat p_N_chain)) 0 k_N_chain := mA (i := 0) (ok_ald_n (f := 0) (pc := 0) rfl rfl rfl (by decide +kernel)) (
  mA (i := 1) (ok_ic (n := 0) (pc := 1) (by decide +kernel) rfl rfl (by decide +kernel)) (
  mA (i := 2) (ok_pI (pc := 2) rfl (by decide +kernel) wd_618 inw_11 tyX10_ok nmX10 rfl (by decide +kernel) rfl rfl (by decide +kernel)) (
  mA (i := 3) (ok_ild_n (f := 1) (pc := 5) rfl rfl rfl (by decide +kernel)) (
  mA (i := 4) (ok_callI (pc := 6) (can_S cal_N_isMode (by decide +kernel) wd_741 wd_740 wd_605 (by decide +kernel)) rfl rfl) (
  mA (i := 5) (ok_ifne (off := 6) (pc := 9) (tgt := 15) rfl rfl rfl (by decide +kernel) (by decide +kernel)) (
  mA (i := 6) (ok_bi (n := (-2)) (pc := 12) (by decide +kernel) rfl rfl (by decide +kernel)) (
  mA (i := 7) (ok_iret (pc := 14) rfl rfl (by decide +kernel)) (
  mA (i := 8) (ok_ild_n (f := 2) (pc := 15) rfl rfl rfl (by decide +kernel)) (
  mA (i := 9) (ok_ic (n := (-1)) (pc := 16) (by decide +kernel) rfl rfl (by decide +kernel)) (
  mA (i := 10) (ok_cge (off := 6) (pc := 17) (tgt := 23) rfl rfl rfl (by decide +kernel) (by decide +kernel)) (
  mA (i := 11) (ok_bi (n := (-3)) (pc := 20) (by decide +kernel) rfl rfl (by decide +kernel)) (
  mA (i := 12) (ok_iret (pc := 22) rfl rfl (by decide +kernel)) (
  mA (i := 13) (ok_ald_n (f := 0) (pc := 23) rfl rfl rfl (by decide +kernel)) (
  mA (i := 14) (ok_ild_n (f := 1) (pc := 24) rfl rfl rfl (by decide +kernel)) (
  mA (i := 15) (ok_callV (pc := 25) (can_V cal_N_laysCovering (by decide +kernel) rfl (by decide +kernel) rfl wd_819 wd_820 wd_821 wd_605 (by decide +kernel)) rfl rfl) (
  mA (i := 16) (ok_ald_n (f := 0) (pc := 28) rfl rfl rfl (by decide +kernel)) (
  mA (i := 17) (ok_callI (pc := 29) (can_V cal_N_laysChains (by decide +kernel) rfl (by decide +kernel) rfl wd_828 wd_829 wd_830 wd_605 (by decide +kernel)) rfl rfl) (
  mA (i := 18) (ok_ist_n (f := 3) (pc := 32) rfl (by decide +kernel) rfl rfl rfl (by decide +kernel)) (
  mA (i := 19) (ok_ild_n (f := 2) (pc := 33) rfl rfl rfl (by decide +kernel)) (
  mA (i := 20) (ok_ic (n := (-1)) (pc := 34) (by decide +kernel) rfl rfl (by decide +kernel)) (
  mA (i := 21) (ok_cne (off := 5) (pc := 35) (tgt := 40) rfl rfl rfl (by decide +kernel) (by decide +kernel)) (
  mA (i := 22) (ok_ild_n (f := 3) (pc := 38) rfl rfl rfl (by decide +kernel)) (
  mA (i := 23) (ok_iret (pc := 39) rfl rfl (by decide +kernel)) (
  mA (i := 24) (ok_ild_n (f := 2) (pc := 40) rfl rfl rfl (by decide +kernel)) (
  mA (i := 25) (ok_ild_n (f := 3) (pc := 41) rfl rfl rfl (by decide +kernel)) (
  mA (i := 26) (ok_clt (off := 5) (pc := 42) (tgt := 47) rfl rfl rfl (by decide +kernel) (by decide +kernel)) (
  mA (i := 27) (ok_ic (n := (-1)) (pc := 45) (by decide +kernel) rfl rfl (by decide +kernel)) (
  mA (i := 28) (ok_iret (pc := 46) rfl rfl (by decide +kernel)) (
  mA (i := 29) (ok_ic (n := (-1)) (pc := 47) (by decide +kernel) rfl rfl (by decide +kernel)) (
  mA (i := 30) (ok_ist (pc := 48) (by decide +kernel) rfl rfl rfl (by decide +kernel)) (
  mA (i := 31) (ok_ic (n := 0) (pc := 50) (by decide +kernel) rfl rfl (by decide +kernel)) (
  mA (i := 32) (ok_ist (pc := 51) (by decide +kernel) rfl rfl rfl (by decide +kernel)) (
  mA (i := 33) (ok_ild (pc := 53) rfl rfl (by decide +kernel)) (
  mA (i := 34) (ok_ild_n (f := 2) (pc := 55) rfl rfl rfl (by decide +kernel)) (
  mA (i := 35) (ok_cgt (off := 53) (pc := 56) (tgt := 109) rfl rfl rfl (by decide +kernel) (by decide +kernel)) (
  mA (i := 36) (ok_ic (n := 0) (pc := 59) (by decide +kernel) rfl rfl (by decide +kernel)) (
  mA (i := 37) (ok_ist (pc := 60) (by decide +kernel) rfl rfl rfl (by decide +kernel)) (
  mA (i := 38) (ok_ald_n (f := 0) (pc := 62) rfl rfl rfl (by decide +kernel)) (
  mA (i := 39) (ok_gP (pc := 63) rfl (by decide +kernel) wd_602 inw_11 rfl rfl (by decide +kernel)) (
  mA (i := 40) (ok_ild (pc := 66) rfl rfl (by decide +kernel)) (
  mA (i := 41) (ok_iald (pc := 68) rfl rfl (by decide +kernel)) (
  mA (i := 42) (ok_ild_n (f := 3) (pc := 69) rfl rfl rfl (by decide +kernel)) (
  mA (i := 43) (ok_ild (pc := 70) rfl rfl (by decide +kernel)) (
  mA (i := 44) (ok_sub (pc := 72) rfl rfl (by decide +kernel)) (
  mA (i := 45) (ok_cne (off := 20) (pc := 73) (tgt := 93) rfl rfl rfl (by decide +kernel) (by decide +kernel)) (
  mA (i := 46) (ok_ild (pc := 76) rfl rfl (by decide +kernel)) (
  mA (i := 47) (ok_ic (n := (-1)) (pc := 78) (by decide +kernel) rfl rfl (by decide +kernel)) (
  mA (i := 48) (ok_ceq (off := 20) (pc := 79) (tgt := 99) rfl rfl rfl (by decide +kernel) (by decide +kernel)) (
  mA (i := 49) (ok_ald_n (f := 0) (pc := 82) rfl rfl rfl (by decide +kernel)) (
  mA (i := 50) (ok_ild (pc := 83) rfl rfl (by decide +kernel)) (
  mA (i := 51) (ok_ild (pc := 85) rfl rfl (by decide +kernel)) (
  mA (i := 52) (ok_callI (pc := 87) (can_V cal_N_isMoreGeneral (by decide +kernel) rfl (by decide +kernel) rfl wd_825 wd_826 wd_827 wd_605 (by decide +kernel)) rfl rfl) (
  mA (i := 53) (ok_ifne (off := 9) (pc := 90) (tgt := 99) rfl rfl rfl (by decide +kernel) (by decide +kernel)) (
  mA (i := 54) (ok_inc (z := 1) (pc := 93) (by decide +kernel) (by decide +kernel) rfl rfl rfl (by decide +kernel)) (
  mA (i := 55) (ok_goto (off := (-34)) (pc := 96) (tgt := 62) rfl rfl (by decide +kernel) (by decide +kernel)) (
  mA (i := 56) (ok_ild (pc := 99) rfl rfl (by decide +kernel)) (
  mA (i := 57) (ok_ist (pc := 101) (by decide +kernel) rfl rfl rfl (by decide +kernel)) (
  mA (i := 58) (ok_inc (z := 1) (pc := 103) (by decide +kernel) (by decide +kernel) rfl rfl rfl (by decide +kernel)) (
  mA (i := 59) (ok_goto (off := (-53)) (pc := 106) (tgt := 53) rfl rfl (by decide +kernel) (by decide +kernel)) (
  ok_N_chain_t60))))))))))))))))))))))))))))))))))))))))))))))))))))))))))))
set_option maxRecDepth 20000 in
theorem ok_N_parts_t60 : mAll (mOk RX10 cX10_parts 6 true false (some .int) (mnat p_N_parts)) 60 [o_ist 2, o_inc 3 (nI 1), o_goto 15, o_ild 2, o_iret] := mA (i := 60) (ok_ist_n (f := 2) (pc := 104) rfl (by decide +kernel) rfl rfl rfl (by decide +kernel)) (
  mA (i := 61) (ok_inc (z := 1) (pc := 105) (by decide +kernel) (by decide +kernel) rfl rfl rfl (by decide +kernel)) (
  mA (i := 62) (ok_goto (off := (-84)) (pc := 108) (tgt := 24) rfl rfl (by decide +kernel) (by decide +kernel)) (
  mA (i := 63) (ok_ild_n (f := 2) (pc := 111) rfl rfl rfl (by decide +kernel)) (
  mA (i := 64) (ok_iret (pc := 112) rfl rfl (by decide +kernel)) (
  mZ)))))
set_option maxRecDepth 20000 in
theorem ok_N_parts : mAll (mOk RX10 cX10_parts 6 true false (some .int) (mnat p_N_parts)) 0 k_N_parts := mA (i := 0) (ok_ald_n (f := 0) (pc := 0) rfl rfl rfl (by decide +kernel)) (
  mA (i := 1) (ok_ic (n := 0) (pc := 1) (by decide +kernel) rfl rfl (by decide +kernel)) (
  mA (i := 2) (ok_pI (pc := 2) rfl (by decide +kernel) wd_618 inw_11 tyX10_ok nmX10 rfl (by decide +kernel) rfl rfl (by decide +kernel)) (
  mA (i := 3) (ok_ild_n (f := 1) (pc := 5) rfl rfl rfl (by decide +kernel)) (
  mA (i := 4) (ok_callI (pc := 6) (can_S cal_N_isMode (by decide +kernel) wd_741 wd_740 wd_605 (by decide +kernel)) rfl rfl) (
  mA (i := 5) (ok_ifne (off := 6) (pc := 9) (tgt := 15) rfl rfl rfl (by decide +kernel) (by decide +kernel)) (
  mA (i := 6) (ok_bi (n := (-2)) (pc := 12) (by decide +kernel) rfl rfl (by decide +kernel)) (
  mA (i := 7) (ok_iret (pc := 14) rfl rfl (by decide +kernel)) (
  mA (i := 8) (ok_ald_n (f := 0) (pc := 15) rfl rfl rfl (by decide +kernel)) (
  mA (i := 9) (ok_ild_n (f := 1) (pc := 16) rfl rfl rfl (by decide +kernel)) (
  mA (i := 10) (ok_callV (pc := 17) (can_V cal_N_laysCovering (by decide +kernel) rfl (by decide +kernel) rfl wd_819 wd_820 wd_821 wd_605 (by decide +kernel)) rfl rfl) (
  mA (i := 11) (ok_ic (n := 0) (pc := 20) (by decide +kernel) rfl rfl (by decide +kernel)) (
  mA (i := 12) (ok_ist_n (f := 2) (pc := 21) rfl (by decide +kernel) rfl rfl rfl (by decide +kernel)) (
  mA (i := 13) (ok_ic (n := 0) (pc := 22) (by decide +kernel) rfl rfl (by decide +kernel)) (
  mA (i := 14) (ok_ist_n (f := 3) (pc := 23) rfl (by decide +kernel) rfl rfl rfl (by decide +kernel)) (
  mA (i := 15) (ok_ild_n (f := 3) (pc := 24) rfl rfl rfl (by decide +kernel)) (
  mA (i := 16) (ok_bi (n := 24) (pc := 25) (by decide +kernel) rfl rfl (by decide +kernel)) (
  mA (i := 17) (ok_cge (off := 84) (pc := 27) (tgt := 111) rfl rfl rfl (by decide +kernel) (by decide +kernel)) (
  mA (i := 18) (ok_ald_n (f := 0) (pc := 30) rfl rfl rfl (by decide +kernel)) (
  mA (i := 19) (ok_ild_n (f := 3) (pc := 31) rfl rfl rfl (by decide +kernel)) (
  mA (i := 20) (ok_callI (pc := 32) (can_V cal_N_isKept (by decide +kernel) rfl (by decide +kernel) rfl wd_688 wd_689 wd_690 wd_605 (by decide +kernel)) rfl rfl) (
  mA (i := 21) (ok_ist (pc := 35) (by decide +kernel) rfl rfl rfl (by decide +kernel)) (
  mA (i := 22) (ok_ic (n := 0) (pc := 37) (by decide +kernel) rfl rfl (by decide +kernel)) (
  mA (i := 23) (ok_ist (pc := 38) (by decide +kernel) rfl rfl rfl (by decide +kernel)) (
  mA (i := 24) (ok_ild (pc := 40) rfl rfl (by decide +kernel)) (
  mA (i := 25) (ok_ild_n (f := 3) (pc := 42) rfl rfl rfl (by decide +kernel)) (
  mA (i := 26) (ok_cge (off := 49) (pc := 43) (tgt := 92) rfl rfl rfl (by decide +kernel) (by decide +kernel)) (
  mA (i := 27) (ok_ild (pc := 46) rfl rfl (by decide +kernel)) (
  mA (i := 28) (ok_ald_n (f := 0) (pc := 48) rfl rfl rfl (by decide +kernel)) (
  mA (i := 29) (ok_gP (pc := 49) rfl (by decide +kernel) wd_601 inw_11 rfl rfl (by decide +kernel)) (
  mA (i := 30) (ok_bi (n := 24) (pc := 52) (by decide +kernel) rfl rfl (by decide +kernel)) (
  mA (i := 31) (ok_ild_n (f := 3) (pc := 54) rfl rfl rfl (by decide +kernel)) (
  mA (i := 32) (ok_mul (pc := 55) rfl rfl (by decide +kernel)) (
  mA (i := 33) (ok_ild (pc := 56) rfl rfl (by decide +kernel)) (
  mA (i := 34) (ok_add (pc := 58) rfl rfl (by decide +kernel)) (
  mA (i := 35) (ok_zald (pc := 59) rfl rfl (by decide +kernel)) (
  mA (i := 36) (ok_ifeq (off := 18) (pc := 60) (tgt := 78) rfl rfl rfl (by decide +kernel) (by decide +kernel)) (
  mA (i := 37) (ok_ald_n (f := 0) (pc := 63) rfl rfl rfl (by decide +kernel)) (
  mA (i := 38) (ok_gP (pc := 64) rfl (by decide +kernel) wd_601 inw_11 rfl rfl (by decide +kernel)) (
  mA (i := 39) (ok_bi (n := 24) (pc := 67) (by decide +kernel) rfl rfl (by decide +kernel)) (
  mA (i := 40) (ok_ild (pc := 69) rfl rfl (by decide +kernel)) (
  mA (i := 41) (ok_mul (pc := 71) rfl rfl (by decide +kernel)) (
  mA (i := 42) (ok_ild_n (f := 3) (pc := 72) rfl rfl rfl (by decide +kernel)) (
  mA (i := 43) (ok_add (pc := 73) rfl rfl (by decide +kernel)) (
  mA (i := 44) (ok_zald (pc := 74) rfl rfl (by decide +kernel)) (
  mA (i := 45) (ok_ifne (off := 7) (pc := 75) (tgt := 82) rfl rfl rfl (by decide +kernel) (by decide +kernel)) (
  mA (i := 46) (ok_ic (n := 1) (pc := 78) (by decide +kernel) rfl rfl (by decide +kernel)) (
  mA (i := 47) (ok_goto (off := 4) (pc := 79) (tgt := 83) rfl rfl (by decide +kernel) (by decide +kernel)) (
  mA (i := 48) (ok_ic (n := 0) (pc := 82) (by decide +kernel) rfl rfl (by decide +kernel)) (
  mA (i := 49) (ok_and (pc := 83) rfl rfl (by decide +kernel)) (
  mA (i := 50) (ok_ist (pc := 84) (by decide +kernel) rfl rfl rfl (by decide +kernel)) (
  mA (i := 51) (ok_inc (z := 1) (pc := 86) (by decide +kernel) (by decide +kernel) rfl rfl rfl (by decide +kernel)) (
  mA (i := 52) (ok_goto (off := (-49)) (pc := 89) (tgt := 40) rfl rfl (by decide +kernel) (by decide +kernel)) (
  mA (i := 53) (ok_ild_n (f := 2) (pc := 92) rfl rfl rfl (by decide +kernel)) (
  mA (i := 54) (ok_ild (pc := 93) rfl rfl (by decide +kernel)) (
  mA (i := 55) (ok_ifeq (off := 7) (pc := 95) (tgt := 102) rfl rfl rfl (by decide +kernel) (by decide +kernel)) (
  mA (i := 56) (ok_ic (n := 1) (pc := 98) (by decide +kernel) rfl rfl (by decide +kernel)) (
  mA (i := 57) (ok_goto (off := 4) (pc := 99) (tgt := 103) rfl rfl (by decide +kernel) (by decide +kernel)) (
  mA (i := 58) (ok_ic (n := 0) (pc := 102) (by decide +kernel) rfl rfl (by decide +kernel)) (
  mA (i := 59) (ok_add (pc := 103) rfl rfl (by decide +kernel)) (
  ok_N_parts_t60))))))))))))))))))))))))))))))))))))))))))))))))))))))))))))
set_option maxRecDepth 20000 in
theorem ok_N_doubles : mAll (mOk RX10 cX10_doubles 5 true false (some .int) (mnat p_N_doubles)) 0 k_N_doubles := mA (i := 0) (ok_ald_n (f := 0) (pc := 0) rfl rfl rfl (by decide +kernel)) (
  mA (i := 1) (ok_ic (n := 0) (pc := 1) (by decide +kernel) rfl rfl (by decide +kernel)) (
  mA (i := 2) (ok_pI (pc := 2) rfl (by decide +kernel) wd_618 inw_11 tyX10_ok nmX10 rfl (by decide +kernel) rfl rfl (by decide +kernel)) (
  mA (i := 3) (ok_ic (n := 0) (pc := 5) (by decide +kernel) rfl rfl (by decide +kernel)) (
  mA (i := 4) (ok_ist_n (f := 1) (pc := 6) rfl (by decide +kernel) rfl rfl rfl (by decide +kernel)) (
  mA (i := 5) (ok_ic (n := 0) (pc := 7) (by decide +kernel) rfl rfl (by decide +kernel)) (
  mA (i := 6) (ok_ist_n (f := 2) (pc := 8) rfl (by decide +kernel) rfl rfl rfl (by decide +kernel)) (
  mA (i := 7) (ok_ild_n (f := 2) (pc := 9) rfl rfl rfl (by decide +kernel)) (
  mA (i := 8) (ok_bi (n := 24) (pc := 10) (by decide +kernel) rfl rfl (by decide +kernel)) (
  mA (i := 9) (ok_cge (off := 73) (pc := 12) (tgt := 85) rfl rfl rfl (by decide +kernel) (by decide +kernel)) (
  mA (i := 10) (ok_ic (n := 0) (pc := 15) (by decide +kernel) rfl rfl (by decide +kernel)) (
  mA (i := 11) (ok_ist_n (f := 3) (pc := 16) rfl (by decide +kernel) rfl rfl rfl (by decide +kernel)) (
  mA (i := 12) (ok_ic (n := 0) (pc := 17) (by decide +kernel) rfl rfl (by decide +kernel)) (
  mA (i := 13) (ok_ist (pc := 18) (by decide +kernel) rfl rfl rfl (by decide +kernel)) (
  mA (i := 14) (ok_ild (pc := 20) rfl rfl (by decide +kernel)) (
  mA (i := 15) (ok_ild_n (f := 2) (pc := 22) rfl rfl rfl (by decide +kernel)) (
  mA (i := 16) (ok_cge (off := 44) (pc := 23) (tgt := 67) rfl rfl rfl (by decide +kernel) (by decide +kernel)) (
  mA (i := 17) (ok_ild_n (f := 3) (pc := 26) rfl rfl rfl (by decide +kernel)) (
  mA (i := 18) (ok_ald_n (f := 0) (pc := 27) rfl rfl rfl (by decide +kernel)) (
  mA (i := 19) (ok_ild_n (f := 2) (pc := 28) rfl rfl rfl (by decide +kernel)) (
  mA (i := 20) (ok_callI (pc := 29) (can_V cal_N_isKept (by decide +kernel) rfl (by decide +kernel) rfl wd_688 wd_689 wd_690 wd_605 (by decide +kernel)) rfl rfl) (
  mA (i := 21) (ok_ifeq (off := 26) (pc := 32) (tgt := 58) rfl rfl rfl (by decide +kernel) (by decide +kernel)) (
  mA (i := 22) (ok_ald_n (f := 0) (pc := 35) rfl rfl rfl (by decide +kernel)) (
  mA (i := 23) (ok_ild (pc := 36) rfl rfl (by decide +kernel)) (
  mA (i := 24) (ok_callI (pc := 38) (can_V cal_N_isKept (by decide +kernel) rfl (by decide +kernel) rfl wd_688 wd_689 wd_690 wd_605 (by decide +kernel)) rfl rfl) (
  mA (i := 25) (ok_ifeq (off := 17) (pc := 41) (tgt := 58) rfl rfl rfl (by decide +kernel) (by decide +kernel)) (
  mA (i := 26) (ok_ald_n (f := 0) (pc := 44) rfl rfl rfl (by decide +kernel)) (
  mA (i := 27) (ok_ild_n (f := 2) (pc := 45) rfl rfl rfl (by decide +kernel)) (
  mA (i := 28) (ok_ild (pc := 46) rfl rfl (by decide +kernel)) (
  mA (i := 29) (ok_callI (pc := 48) (can_V cal_N_areAlike (by decide +kernel) rfl (by decide +kernel) rfl wd_749 wd_750 wd_751 wd_605 (by decide +kernel)) rfl rfl) (
  mA (i := 30) (ok_ifeq (off := 7) (pc := 51) (tgt := 58) rfl rfl rfl (by decide +kernel) (by decide +kernel)) (
  mA (i := 31) (ok_ic (n := 1) (pc := 54) (by decide +kernel) rfl rfl (by decide +kernel)) (
  mA (i := 32) (ok_goto (off := 4) (pc := 55) (tgt := 59) rfl rfl (by decide +kernel) (by decide +kernel)) (
  mA (i := 33) (ok_ic (n := 0) (pc := 58) (by decide +kernel) rfl rfl (by decide +kernel)) (
  mA (i := 34) (ok_or (pc := 59) rfl rfl (by decide +kernel)) (
  mA (i := 35) (ok_ist_n (f := 3) (pc := 60) rfl (by decide +kernel) rfl rfl rfl (by decide +kernel)) (
  mA (i := 36) (ok_inc (z := 1) (pc := 61) (by decide +kernel) (by decide +kernel) rfl rfl rfl (by decide +kernel)) (
  mA (i := 37) (ok_goto (off := (-44)) (pc := 64) (tgt := 20) rfl rfl (by decide +kernel) (by decide +kernel)) (
  mA (i := 38) (ok_ild_n (f := 1) (pc := 67) rfl rfl rfl (by decide +kernel)) (
  mA (i := 39) (ok_ild_n (f := 3) (pc := 68) rfl rfl rfl (by decide +kernel)) (
  mA (i := 40) (ok_ifeq (off := 7) (pc := 69) (tgt := 76) rfl rfl rfl (by decide +kernel) (by decide +kernel)) (
  mA (i := 41) (ok_ic (n := 1) (pc := 72) (by decide +kernel) rfl rfl (by decide +kernel)) (
  mA (i := 42) (ok_goto (off := 4) (pc := 73) (tgt := 77) rfl rfl (by decide +kernel) (by decide +kernel)) (
  mA (i := 43) (ok_ic (n := 0) (pc := 76) (by decide +kernel) rfl rfl (by decide +kernel)) (
  mA (i := 44) (ok_add (pc := 77) rfl rfl (by decide +kernel)) (
  mA (i := 45) (ok_ist_n (f := 1) (pc := 78) rfl (by decide +kernel) rfl rfl rfl (by decide +kernel)) (
  mA (i := 46) (ok_inc (z := 1) (pc := 79) (by decide +kernel) (by decide +kernel) rfl rfl rfl (by decide +kernel)) (
  mA (i := 47) (ok_goto (off := (-73)) (pc := 82) (tgt := 9) rfl rfl (by decide +kernel) (by decide +kernel)) (
  mA (i := 48) (ok_ild_n (f := 1) (pc := 85) rfl rfl rfl (by decide +kernel)) (
  mA (i := 49) (ok_iret (pc := 86) rfl rfl (by decide +kernel)) (
  mZ))))))))))))))))))))))))))))))))))))))))))))))))))
set_option maxRecDepth 20000 in
theorem ok_N_count : mAll (mOk RX10 cX10_count 4 true false (some .int) (mnat p_N_count)) 0 k_N_count := mA (i := 0) (ok_ald_n (f := 0) (pc := 0) rfl rfl rfl (by decide +kernel)) (
  mA (i := 1) (ok_ic (n := 0) (pc := 1) (by decide +kernel) rfl rfl (by decide +kernel)) (
  mA (i := 2) (ok_pI (pc := 2) rfl (by decide +kernel) wd_618 inw_11 tyX10_ok nmX10 rfl (by decide +kernel) rfl rfl (by decide +kernel)) (
  mA (i := 3) (ok_ic (n := 0) (pc := 5) (by decide +kernel) rfl rfl (by decide +kernel)) (
  mA (i := 4) (ok_ist_n (f := 2) (pc := 6) rfl (by decide +kernel) rfl rfl rfl (by decide +kernel)) (
  mA (i := 5) (ok_ic (n := 0) (pc := 7) (by decide +kernel) rfl rfl (by decide +kernel)) (
  mA (i := 6) (ok_ist_n (f := 3) (pc := 8) rfl (by decide +kernel) rfl rfl rfl (by decide +kernel)) (
  mA (i := 7) (ok_ild_n (f := 3) (pc := 9) rfl rfl rfl (by decide +kernel)) (
  mA (i := 8) (ok_bi (n := 24) (pc := 10) (by decide +kernel) rfl rfl (by decide +kernel)) (
  mA (i := 9) (ok_cge (off := 27) (pc := 12) (tgt := 39) rfl rfl rfl (by decide +kernel) (by decide +kernel)) (
  mA (i := 10) (ok_ild_n (f := 2) (pc := 15) rfl rfl rfl (by decide +kernel)) (
  mA (i := 11) (ok_ald_n (f := 0) (pc := 16) rfl rfl rfl (by decide +kernel)) (
  mA (i := 12) (ok_ild_n (f := 3) (pc := 17) rfl rfl rfl (by decide +kernel)) (
  mA (i := 13) (ok_callI (pc := 18) (can_V cal_N_isKept (by decide +kernel) rfl (by decide +kernel) rfl wd_688 wd_689 wd_690 wd_605 (by decide +kernel)) rfl rfl) (
  mA (i := 14) (ok_ifeq (off := 9) (pc := 21) (tgt := 30) rfl rfl rfl (by decide +kernel) (by decide +kernel)) (
  mA (i := 15) (ok_ic (n := 1) (pc := 24) (by decide +kernel) rfl rfl (by decide +kernel)) (
  mA (i := 16) (ok_ild_n (f := 3) (pc := 25) rfl rfl rfl (by decide +kernel)) (
  mA (i := 17) (ok_shl (pc := 26) rfl rfl (by decide +kernel)) (
  mA (i := 18) (ok_goto (off := 4) (pc := 27) (tgt := 31) rfl rfl (by decide +kernel) (by decide +kernel)) (
  mA (i := 19) (ok_ic (n := 0) (pc := 30) (by decide +kernel) rfl rfl (by decide +kernel)) (
  mA (i := 20) (ok_or (pc := 31) rfl rfl (by decide +kernel)) (
  mA (i := 21) (ok_ist_n (f := 2) (pc := 32) rfl (by decide +kernel) rfl rfl rfl (by decide +kernel)) (
  mA (i := 22) (ok_inc (z := 1) (pc := 33) (by decide +kernel) (by decide +kernel) rfl rfl rfl (by decide +kernel)) (
  mA (i := 23) (ok_goto (off := (-27)) (pc := 36) (tgt := 9) rfl rfl (by decide +kernel) (by decide +kernel)) (
  mA (i := 24) (ok_ild_n (f := 1) (pc := 39) rfl rfl rfl (by decide +kernel)) (
  mA (i := 25) (ok_tsw (lo := 0) (n := 6) (dflt := 73) (offs := #[40, 45, 47, 54, 63, 68]) (len := 40) (pc := 40) (by decide +kernel) rfl rfl (by decide +kernel) (by decide +kernel) (by decide +kernel) rfl (by decide +kernel)) (
  mA (i := 26) (ok_ald_n (f := 0) (pc := 80) rfl rfl rfl (by decide +kernel)) (
  mA (i := 27) (ok_callI (pc := 81) (can_V cal_N_keptMany (by decide +kernel) rfl (by decide +kernel) rfl wd_694 wd_695 wd_696 wd_605 (by decide +kernel)) rfl rfl) (
  mA (i := 28) (ok_iret (pc := 84) rfl rfl (by decide +kernel)) (
  mA (i := 29) (ok_ild_n (f := 2) (pc := 85) rfl rfl rfl (by decide +kernel)) (
  mA (i := 30) (ok_iret (pc := 86) rfl rfl (by decide +kernel)) (
  mA (i := 31) (ok_ald_n (f := 0) (pc := 87) rfl rfl rfl (by decide +kernel)) (
  mA (i := 32) (ok_bi (n := 24) (pc := 88) (by decide +kernel) rfl rfl (by decide +kernel)) (
  mA (i := 33) (ok_callI (pc := 90) (can_V cal_N_longOf (by decide +kernel) rfl (by decide +kernel) rfl wd_615 wd_616 wd_617 wd_605 (by decide +kernel)) rfl rfl) (
  mA (i := 34) (ok_iret (pc := 93) rfl rfl (by decide +kernel)) (
  mA (i := 35) (ok_ald_n (f := 0) (pc := 94) rfl rfl rfl (by decide +kernel)) (
  mA (i := 36) (ok_gP (pc := 95) rfl (by decide +kernel) wd_575 inw_11 rfl rfl (by decide +kernel)) (
  mA (i := 37) (ok_si (n := 800) (pc := 98) (by decide +kernel) rfl rfl (by decide +kernel)) (
  mA (i := 38) (ok_iald (pc := 101) rfl rfl (by decide +kernel)) (
  mA (i := 39) (ok_iret (pc := 102) rfl rfl (by decide +kernel)) (
  mA (i := 40) (ok_ald_n (f := 0) (pc := 103) rfl rfl rfl (by decide +kernel)) (
  mA (i := 41) (ok_gI (pc := 104) rfl (by decide +kernel) wd_697 inw_11 rfl rfl (by decide +kernel)) (
  mA (i := 42) (ok_iret (pc := 107) rfl rfl (by decide +kernel)) (
  mA (i := 43) (ok_ald_n (f := 0) (pc := 108) rfl rfl rfl (by decide +kernel)) (
  mA (i := 44) (ok_gI (pc := 109) rfl (by decide +kernel) wd_619 inw_11 rfl rfl (by decide +kernel)) (
  mA (i := 45) (ok_iret (pc := 112) rfl rfl (by decide +kernel)) (
  mA (i := 46) (ok_ic (n := (-1)) (pc := 113) (by decide +kernel) rfl rfl (by decide +kernel)) (
  mA (i := 47) (ok_iret (pc := 114) rfl rfl (by decide +kernel)) (
  mZ))))))))))))))))))))))))))))))))))))))))))))))))
