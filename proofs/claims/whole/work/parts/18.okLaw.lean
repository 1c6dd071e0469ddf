set_option maxRecDepth 20000 in
theorem ok_Lw_law_t1140 : mAll (mOk RL cL_law 4 true false (some .boolean) (mnat p_Lw_law)) 1140 [o_callI 169 2 10, o_ald 2, o_ald 0, o_ild 3, o_ic (nI 1), o_add, o_ald4 31, o_callI 231 2 11, o_ceq 1185, o_ic (nI 0), o_zret, o_ald 1, o_ald 0, o_ild 3, o_ic (nI 1), o_add, o_ald4 31, o_callI 170 2 10, o_ald 2, o_ald 0, o_ild 3, o_ic (nI 1), o_add, o_ald4 31, o_callI 232 2 11, o_ceq 1185, o_ic (nI 0), o_zret, o_ald 1, o_ald 0, o_ild 3, o_ic (nI 1), o_add, o_ald4 31, o_callI 171 2 10, o_ald 2, o_ald 0, o_ild 3, o_ic (nI 1), o_add, o_ald4 31, o_callI 308 2 11, o_ceq 1185, o_ic (nI 0), o_zret, o_inc 3 (nI 6), o_goto 10, o_ic (nI 1), o_zret] := mA (i := 1140) (ok_callI (pc := 1638) (can_V cal_C_image (by decide +kernel) rfl (by decide +kernel) rfl wd_1118 wd_1119 wd_1120 wd_35 (by decide +kernel)) rfl rfl) (
  mA (i := 1141) (ok_ald_n (f := 2) (pc := 1641) rfl rfl rfl (by decide +kernel)) (
  mA (i := 1142) (ok_ald_n (f := 0) (pc := 1642) rfl rfl rfl (by decide +kernel)) (
  mA (i := 1143) (ok_ild_n (f := 3) (pc := 1643) rfl rfl rfl (by decide +kernel)) (
  mA (i := 1144) (ok_ic (n := 1) (pc := 1644) (by decide +kernel) rfl rfl (by decide +kernel)) (
  mA (i := 1145) (ok_add (pc := 1645) rfl rfl (by decide +kernel)) (
  mA (i := 1146) (ok_sald (pc := 1646) rfl rfl (by decide +kernel)) (
  mA (i := 1147) (ok_callI (pc := 1647) (can_V cal_N_image (by decide +kernel) rfl (by decide +kernel) rfl wd_1121 wd_1122 wd_1123 wd_605 (by decide +kernel)) rfl rfl) (
  mA (i := 1148) (ok_ceq (off := 51) (pc := 1650) (tgt := 1701) rfl rfl rfl (by decide +kernel) (by decide +kernel)) (
  mA (i := 1149) (ok_ic (n := 0) (pc := 1653) (by decide +kernel) rfl rfl (by decide +kernel)) (
  mA (i := 1150) (ok_zret (pc := 1654) rfl rfl (by decide +kernel)) (
  mA (i := 1151) (ok_ald_n (f := 1) (pc := 1655) rfl rfl rfl (by decide +kernel)) (
  mA (i := 1152) (ok_ald_n (f := 0) (pc := 1656) rfl rfl rfl (by decide +kernel)) (
  mA (i := 1153) (ok_ild_n (f := 3) (pc := 1657) rfl rfl rfl (by decide +kernel)) (
  mA (i := 1154) (ok_ic (n := 1) (pc := 1658) (by decide +kernel) rfl rfl (by decide +kernel)) (
  mA (i := 1155) (ok_add (pc := 1659) rfl rfl (by decide +kernel)) (
  mA (i := 1156) (ok_sald (pc := 1660) rfl rfl (by decide +kernel)) (
  mA (i := 1157) (ok_callI (pc := 1661) (can_V cal_C_restore (by decide +kernel) rfl (by decide +kernel) rfl wd_1124 wd_1125 wd_1126 wd_35 (by decide +kernel)) rfl rfl) (
  mA (i := 1158) (ok_ald_n (f := 2) (pc := 1664) rfl rfl rfl (by decide +kernel)) (
  mA (i := 1159) (ok_ald_n (f := 0) (pc := 1665) rfl rfl rfl (by decide +kernel)) (
  mA (i := 1160) (ok_ild_n (f := 3) (pc := 1666) rfl rfl rfl (by decide +kernel)) (
  mA (i := 1161) (ok_ic (n := 1) (pc := 1667) (by decide +kernel) rfl rfl (by decide +kernel)) (
  mA (i := 1162) (ok_add (pc := 1668) rfl rfl (by decide +kernel)) (
  mA (i := 1163) (ok_sald (pc := 1669) rfl rfl (by decide +kernel)) (
  mA (i := 1164) (ok_callI (pc := 1670) (can_V cal_N_restore (by decide +kernel) rfl (by decide +kernel) rfl wd_1127 wd_1128 wd_1129 wd_605 (by decide +kernel)) rfl rfl) (
  mA (i := 1165) (ok_ceq (off := 28) (pc := 1673) (tgt := 1701) rfl rfl rfl (by decide +kernel) (by decide +kernel)) (
  mA (i := 1166) (ok_ic (n := 0) (pc := 1676) (by decide +kernel) rfl rfl (by decide +kernel)) (
  mA (i := 1167) (ok_zret (pc := 1677) rfl rfl (by decide +kernel)) (
  mA (i := 1168) (ok_ald_n (f := 1) (pc := 1678) rfl rfl rfl (by decide +kernel)) (
  mA (i := 1169) (ok_ald_n (f := 0) (pc := 1679) rfl rfl rfl (by decide +kernel)) (
  mA (i := 1170) (ok_ild_n (f := 3) (pc := 1680) rfl rfl rfl (by decide +kernel)) (
  mA (i := 1171) (ok_ic (n := 1) (pc := 1681) (by decide +kernel) rfl rfl (by decide +kernel)) (
  mA (i := 1172) (ok_add (pc := 1682) rfl rfl (by decide +kernel)) (
  mA (i := 1173) (ok_sald (pc := 1683) rfl rfl (by decide +kernel)) (
  mA (i := 1174) (ok_callI (pc := 1684) (can_V cal_C_count (by decide +kernel) rfl (by decide +kernel) rfl wd_1130 wd_1131 wd_1132 wd_35 (by decide +kernel)) rfl rfl) (
  mA (i := 1175) (ok_ald_n (f := 2) (pc := 1687) rfl rfl rfl (by decide +kernel)) (
  mA (i := 1176) (ok_ald_n (f := 0) (pc := 1688) rfl rfl rfl (by decide +kernel)) (
  mA (i := 1177) (ok_ild_n (f := 3) (pc := 1689) rfl rfl rfl (by decide +kernel)) (
  mA (i := 1178) (ok_ic (n := 1) (pc := 1690) (by decide +kernel) rfl rfl (by decide +kernel)) (
  mA (i := 1179) (ok_add (pc := 1691) rfl rfl (by decide +kernel)) (
  mA (i := 1180) (ok_sald (pc := 1692) rfl rfl (by decide +kernel)) (
  mA (i := 1181) (ok_callI (pc := 1693) (can_V cal_N_count (by decide +kernel) rfl (by decide +kernel) rfl wd_1133 wd_1134 wd_1135 wd_605 (by decide +kernel)) rfl rfl) (
  mA (i := 1182) (ok_ceq (off := 5) (pc := 1696) (tgt := 1701) rfl rfl rfl (by decide +kernel) (by decide +kernel)) (
  mA (i := 1183) (ok_ic (n := 0) (pc := 1699) (by decide +kernel) rfl rfl (by decide +kernel)) (
  mA (i := 1184) (ok_zret (pc := 1700) rfl rfl (by decide +kernel)) (
  mA (i := 1185) (ok_inc (z := 6) (pc := 1701) (by decide +kernel) (by decide +kernel) rfl rfl rfl (by decide +kernel)) (
  mA (i := 1186) (ok_goto (off := (-1686)) (pc := 1704) (tgt := 18) rfl rfl (by decide +kernel) (by decide +kernel)) (
  mA (i := 1187) (ok_ic (n := 1) (pc := 1707) (by decide +kernel) rfl rfl (by decide +kernel)) (
  mA (i := 1188) (ok_zret (pc := 1708) rfl rfl (by decide +kernel)) (
  mZ)))))))))))))))))))))))))))))))))))))))))))))))))
set_option maxRecDepth 20000 in
theorem ok_Lw_law_t1080 : mAll (mOk RL cL_law 4 true false (some .boolean) (mnat p_Lw_law)) 1080 [o_ild 3, o_ic (nI 1), o_add, o_ald4 31, o_ald 0, o_ild 3, o_ic (nI 2), o_add, o_ald4 31, o_callI 305 3 11, o_ceq 1185, o_ic (nI 0), o_zret, o_ald 1, o_ald 0, o_ild 3, o_ic (nI 1), o_add, o_ald4 31, o_callI 166 2 10, o_ald 2, o_ald 0, o_ild 3, o_ic (nI 1), o_add, o_ald4 31, o_callI 306 2 11, o_ceq 1185, o_ic (nI 0), o_zret, o_ald 1, o_callI 167 1 10, o_ald 2, o_callI 307 1 11, o_ceq 1185, o_ic (nI 0), o_zret, o_ald 1, o_ald 0, o_ild 3, o_ic (nI 1), o_add, o_ald4 31, o_callI 168 2 10, o_ald 2, o_ald 0, o_ild 3, o_ic (nI 1), o_add, o_ald4 31, o_callI 230 2 11, o_ceq 1185, o_ic (nI 0), o_zret, o_ald 1, o_ald 0, o_ild 3, o_ic (nI 1), o_add, o_ald4 31, o_callI 169 2 10, o_ald 2, o_ald 0, o_ild 3, o_ic (nI 1), o_add, o_ald4 31, o_callI 231 2 11, o_ceq 1185, o_ic (nI 0), o_zret, o_ald 1, o_ald 0, o_ild 3, o_ic (nI 1), o_add, o_ald4 31, o_callI 170 2 10, o_ald 2, o_ald 0, o_ild 3, o_ic (nI 1), o_add, o_ald4 31, o_callI 232 2 11, o_ceq 1185, o_ic (nI 0), o_zret, o_ald 1, o_ald 0, o_ild 3, o_ic (nI 1), o_add, o_ald4 31, o_callI 171 2 10, o_ald 2, o_ald 0, o_ild 3, o_ic (nI 1), o_add, o_ald4 31, o_callI 308 2 11, o_ceq 1185, o_ic (nI 0), o_zret, o_inc 3 (nI 6), o_goto 10, o_ic (nI 1), o_zret] := mA (i := 1080) (ok_ild_n (f := 3) (pc := 1556) rfl rfl rfl (by decide +kernel)) (
  mA (i := 1081) (ok_ic (n := 1) (pc := 1557) (by decide +kernel) rfl rfl (by decide +kernel)) (
  mA (i := 1082) (ok_add (pc := 1558) rfl rfl (by decide +kernel)) (
  mA (i := 1083) (ok_sald (pc := 1559) rfl rfl (by decide +kernel)) (
  mA (i := 1084) (ok_ald_n (f := 0) (pc := 1560) rfl rfl rfl (by decide +kernel)) (
  mA (i := 1085) (ok_ild_n (f := 3) (pc := 1561) rfl rfl rfl (by decide +kernel)) (
  mA (i := 1086) (ok_ic (n := 2) (pc := 1562) (by decide +kernel) rfl rfl (by decide +kernel)) (
  mA (i := 1087) (ok_add (pc := 1563) rfl rfl (by decide +kernel)) (
  mA (i := 1088) (ok_sald (pc := 1564) rfl rfl (by decide +kernel)) (
  mA (i := 1089) (ok_callI (pc := 1565) (can_V cal_N_chain (by decide +kernel) rfl (by decide +kernel) rfl wd_1097 wd_1098 wd_1099 wd_605 (by decide +kernel)) rfl rfl) (
  mA (i := 1090) (ok_ceq (off := 133) (pc := 1568) (tgt := 1701) rfl rfl rfl (by decide +kernel) (by decide +kernel)) (
  mA (i := 1091) (ok_ic (n := 0) (pc := 1571) (by decide +kernel) rfl rfl (by decide +kernel)) (
  mA (i := 1092) (ok_zret (pc := 1572) rfl rfl (by decide +kernel)) (
  mA (i := 1093) (ok_ald_n (f := 1) (pc := 1573) rfl rfl rfl (by decide +kernel)) (
  mA (i := 1094) (ok_ald_n (f := 0) (pc := 1574) rfl rfl rfl (by decide +kernel)) (
  mA (i := 1095) (ok_ild_n (f := 3) (pc := 1575) rfl rfl rfl (by decide +kernel)) (
  mA (i := 1096) (ok_ic (n := 1) (pc := 1576) (by decide +kernel) rfl rfl (by decide +kernel)) (
  mA (i := 1097) (ok_add (pc := 1577) rfl rfl (by decide +kernel)) (
  mA (i := 1098) (ok_sald (pc := 1578) rfl rfl (by decide +kernel)) (
  mA (i := 1099) (ok_callI (pc := 1579) (can_V cal_C_parts (by decide +kernel) rfl (by decide +kernel) rfl wd_1100 wd_1101 wd_1102 wd_35 (by decide +kernel)) rfl rfl) (
  mA (i := 1100) (ok_ald_n (f := 2) (pc := 1582) rfl rfl rfl (by decide +kernel)) (
  mA (i := 1101) (ok_ald_n (f := 0) (pc := 1583) rfl rfl rfl (by decide +kernel)) (
  mA (i := 1102) (ok_ild_n (f := 3) (pc := 1584) rfl rfl rfl (by decide +kernel)) (
  mA (i := 1103) (ok_ic (n := 1) (pc := 1585) (by decide +kernel) rfl rfl (by decide +kernel)) (
  mA (i := 1104) (ok_add (pc := 1586) rfl rfl (by decide +kernel)) (
  mA (i := 1105) (ok_sald (pc := 1587) rfl rfl (by decide +kernel)) (
  mA (i := 1106) (ok_callI (pc := 1588) (can_V cal_N_parts (by decide +kernel) rfl (by decide +kernel) rfl wd_1103 wd_1104 wd_1105 wd_605 (by decide +kernel)) rfl rfl) (
  mA (i := 1107) (ok_ceq (off := 110) (pc := 1591) (tgt := 1701) rfl rfl rfl (by decide +kernel) (by decide +kernel)) (
  mA (i := 1108) (ok_ic (n := 0) (pc := 1594) (by decide +kernel) rfl rfl (by decide +kernel)) (
  mA (i := 1109) (ok_zret (pc := 1595) rfl rfl (by decide +kernel)) (
  mA (i := 1110) (ok_ald_n (f := 1) (pc := 1596) rfl rfl rfl (by decide +kernel)) (
  mA (i := 1111) (ok_callI (pc := 1597) (can_V cal_C_doubles (by decide +kernel) rfl (by decide +kernel) rfl wd_1106 wd_1107 wd_1108 wd_35 (by decide +kernel)) rfl rfl) (
  mA (i := 1112) (ok_ald_n (f := 2) (pc := 1600) rfl rfl rfl (by decide +kernel)) (
  mA (i := 1113) (ok_callI (pc := 1601) (can_V cal_N_doubles (by decide +kernel) rfl (by decide +kernel) rfl wd_1109 wd_1110 wd_1111 wd_605 (by decide +kernel)) rfl rfl) (
  mA (i := 1114) (ok_ceq (off := 97) (pc := 1604) (tgt := 1701) rfl rfl rfl (by decide +kernel) (by decide +kernel)) (
  mA (i := 1115) (ok_ic (n := 0) (pc := 1607) (by decide +kernel) rfl rfl (by decide +kernel)) (
  mA (i := 1116) (ok_zret (pc := 1608) rfl rfl (by decide +kernel)) (
  mA (i := 1117) (ok_ald_n (f := 1) (pc := 1609) rfl rfl rfl (by decide +kernel)) (
  mA (i := 1118) (ok_ald_n (f := 0) (pc := 1610) rfl rfl rfl (by decide +kernel)) (
  mA (i := 1119) (ok_ild_n (f := 3) (pc := 1611) rfl rfl rfl (by decide +kernel)) (
  mA (i := 1120) (ok_ic (n := 1) (pc := 1612) (by decide +kernel) rfl rfl (by decide +kernel)) (
  mA (i := 1121) (ok_add (pc := 1613) rfl rfl (by decide +kernel)) (
  mA (i := 1122) (ok_sald (pc := 1614) rfl rfl (by decide +kernel)) (
  mA (i := 1123) (ok_callI (pc := 1615) (can_V cal_C_undo (by decide +kernel) rfl (by decide +kernel) rfl wd_1112 wd_1113 wd_1114 wd_35 (by decide +kernel)) rfl rfl) (
  mA (i := 1124) (ok_ald_n (f := 2) (pc := 1618) rfl rfl rfl (by decide +kernel)) (
  mA (i := 1125) (ok_ald_n (f := 0) (pc := 1619) rfl rfl rfl (by decide +kernel)) (
  mA (i := 1126) (ok_ild_n (f := 3) (pc := 1620) rfl rfl rfl (by decide +kernel)) (
  mA (i := 1127) (ok_ic (n := 1) (pc := 1621) (by decide +kernel) rfl rfl (by decide +kernel)) (
  mA (i := 1128) (ok_add (pc := 1622) rfl rfl (by decide +kernel)) (
  mA (i := 1129) (ok_sald (pc := 1623) rfl rfl (by decide +kernel)) (
  mA (i := 1130) (ok_callI (pc := 1624) (can_V cal_N_undo (by decide +kernel) rfl (by decide +kernel) rfl wd_1115 wd_1116 wd_1117 wd_605 (by decide +kernel)) rfl rfl) (
  mA (i := 1131) (ok_ceq (off := 74) (pc := 1627) (tgt := 1701) rfl rfl rfl (by decide +kernel) (by decide +kernel)) (
  mA (i := 1132) (ok_ic (n := 0) (pc := 1630) (by decide +kernel) rfl rfl (by decide +kernel)) (
  mA (i := 1133) (ok_zret (pc := 1631) rfl rfl (by decide +kernel)) (
  mA (i := 1134) (ok_ald_n (f := 1) (pc := 1632) rfl rfl rfl (by decide +kernel)) (
  mA (i := 1135) (ok_ald_n (f := 0) (pc := 1633) rfl rfl rfl (by decide +kernel)) (
  mA (i := 1136) (ok_ild_n (f := 3) (pc := 1634) rfl rfl rfl (by decide +kernel)) (
  mA (i := 1137) (ok_ic (n := 1) (pc := 1635) (by decide +kernel) rfl rfl (by decide +kernel)) (
  mA (i := 1138) (ok_add (pc := 1636) rfl rfl (by decide +kernel)) (
  mA (i := 1139) (ok_sald (pc := 1637) rfl rfl (by decide +kernel)) (
  ok_Lw_law_t1140))))))))))))))))))))))))))))))))))))))))))))))))))))))))))))
set_option maxRecDepth 20000 in
theorem ok_Lw_law_t1020 : mAll (mOk RL cL_law 4 true false (some .boolean) (mnat p_Lw_law)) 1020 [o_ald4 31, o_callI 162 2 10, o_ald 2, o_ald 0, o_ild 3, o_ic (nI 1), o_add, o_ald4 31, o_callI 301 2 11, o_ceq 1185, o_ic (nI 0), o_zret, o_ald 1, o_ald 0, o_ild 3, o_ic (nI 1), o_add, o_ald4 31, o_callI 163 2 10, o_ald 2, o_ald 0, o_ild 3, o_ic (nI 1), o_add, o_ald4 31, o_callI 302 2 11, o_ceq 1185, o_ic (nI 0), o_zret, o_ald 1, o_ald 0, o_ild 3, o_ic (nI 1), o_add, o_ald4 31, o_callI 164 2 10, o_ald 2, o_ald 0, o_ild 3, o_ic (nI 1), o_add, o_ald4 31, o_callI 303 2 11, o_ceq 1185, o_ic (nI 0), o_zret, o_ald 1, o_ald 0, o_ild 3, o_ic (nI 1), o_add, o_ald4 31, o_ald 0, o_ild 3, o_ic (nI 2), o_add, o_ald4 31, o_callI 165 3 10, o_ald 2, o_ald 0, o_ild 3, o_ic (nI 1), o_add, o_ald4 31, o_ald 0, o_ild 3, o_ic (nI 2), o_add, o_ald4 31, o_callI 305 3 11, o_ceq 1185, o_ic (nI 0), o_zret, o_ald 1, o_ald 0, o_ild 3, o_ic (nI 1), o_add, o_ald4 31, o_callI 166 2 10, o_ald 2, o_ald 0, o_ild 3, o_ic (nI 1), o_add, o_ald4 31, o_callI 306 2 11, o_ceq 1185, o_ic (nI 0), o_zret, o_ald 1, o_callI 167 1 10, o_ald 2, o_callI 307 1 11, o_ceq 1185, o_ic (nI 0), o_zret, o_ald 1, o_ald 0, o_ild 3, o_ic (nI 1), o_add, o_ald4 31, o_callI 168 2 10, o_ald 2, o_ald 0, o_ild 3, o_ic (nI 1), o_add, o_ald4 31, o_callI 230 2 11, o_ceq 1185, o_ic (nI 0), o_zret, o_ald 1, o_ald 0, o_ild 3, o_ic (nI 1), o_add, o_ald4 31, o_callI 169 2 10, o_ald 2, o_ald 0, o_ild 3, o_ic (nI 1), o_add, o_ald4 31, o_callI 231 2 11, o_ceq 1185, o_ic (nI 0), o_zret, o_ald 1, o_ald 0, o_ild 3, o_ic (nI 1), o_add, o_ald4 31, o_callI 170 2 10, o_ald 2, o_ald 0, o_ild 3, o_ic (nI 1), o_add, o_ald4 31, o_callI 232 2 11, o_ceq 1185, o_ic (nI 0), o_zret, o_ald 1, o_ald 0, o_ild 3, o_ic (nI 1), o_add, o_ald4 31, o_callI 171 2 10, o_ald 2, o_ald 0, o_ild 3, o_ic (nI 1), o_add, o_ald4 31, o_callI 308 2 11, o_ceq 1185, o_ic (nI 0), o_zret, o_inc 3 (nI 6), o_goto 10, o_ic (nI 1), o_zret] := mA (i := 1020) (ok_sald (pc := 1476) rfl rfl (by decide +kernel)) (
  mA (i := 1021) (ok_callI (pc := 1477) (can_V cal_C_redundant (by decide +kernel) rfl (by decide +kernel) rfl wd_1076 wd_1077 wd_1078 wd_35 (by decide +kernel)) rfl rfl) (
  mA (i := 1022) (ok_ald_n (f := 2) (pc := 1480) rfl rfl rfl (by decide +kernel)) (
  mA (i := 1023) (ok_ald_n (f := 0) (pc := 1481) rfl rfl rfl (by decide +kernel)) (
  mA (i := 1024) (ok_ild_n (f := 3) (pc := 1482) rfl rfl rfl (by decide +kernel)) (
  mA (i := 1025) (ok_ic (n := 1) (pc := 1483) (by decide +kernel) rfl rfl (by decide +kernel)) (
  mA (i := 1026) (ok_add (pc := 1484) rfl rfl (by decide +kernel)) (
  mA (i := 1027) (ok_sald (pc := 1485) rfl rfl (by decide +kernel)) (
  mA (i := 1028) (ok_callI (pc := 1486) (can_V cal_N_redundant (by decide +kernel) rfl (by decide +kernel) rfl wd_1079 wd_1080 wd_1081 wd_605 (by decide +kernel)) rfl rfl) (
  mA (i := 1029) (ok_ceq (off := 212) (pc := 1489) (tgt := 1701) rfl rfl rfl (by decide +kernel) (by decide +kernel)) (
  mA (i := 1030) (ok_ic (n := 0) (pc := 1492) (by decide +kernel) rfl rfl (by decide +kernel)) (
  mA (i := 1031) (ok_zret (pc := 1493) rfl rfl (by decide +kernel)) (
  mA (i := 1032) (ok_ald_n (f := 1) (pc := 1494) rfl rfl rfl (by decide +kernel)) (
  mA (i := 1033) (ok_ald_n (f := 0) (pc := 1495) rfl rfl rfl (by decide +kernel)) (
  mA (i := 1034) (ok_ild_n (f := 3) (pc := 1496) rfl rfl rfl (by decide +kernel)) (
  mA (i := 1035) (ok_ic (n := 1) (pc := 1497) (by decide +kernel) rfl rfl (by decide +kernel)) (
  mA (i := 1036) (ok_add (pc := 1498) rfl rfl (by decide +kernel)) (
  mA (i := 1037) (ok_sald (pc := 1499) rfl rfl (by decide +kernel)) (
  mA (i := 1038) (ok_callI (pc := 1500) (can_V cal_C_clean (by decide +kernel) rfl (by decide +kernel) rfl wd_1082 wd_1083 wd_1084 wd_35 (by decide +kernel)) rfl rfl) (
  mA (i := 1039) (ok_ald_n (f := 2) (pc := 1503) rfl rfl rfl (by decide +kernel)) (
  mA (i := 1040) (ok_ald_n (f := 0) (pc := 1504) rfl rfl rfl (by decide +kernel)) (
  mA (i := 1041) (ok_ild_n (f := 3) (pc := 1505) rfl rfl rfl (by decide +kernel)) (
  mA (i := 1042) (ok_ic (n := 1) (pc := 1506) (by decide +kernel) rfl rfl (by decide +kernel)) (
  mA (i := 1043) (ok_add (pc := 1507) rfl rfl (by decide +kernel)) (
  mA (i := 1044) (ok_sald (pc := 1508) rfl rfl (by decide +kernel)) (
  mA (i := 1045) (ok_callI (pc := 1509) (can_V cal_N_clean (by decide +kernel) rfl (by decide +kernel) rfl wd_1085 wd_1086 wd_1087 wd_605 (by decide +kernel)) rfl rfl) (
  mA (i := 1046) (ok_ceq (off := 189) (pc := 1512) (tgt := 1701) rfl rfl rfl (by decide +kernel) (by decide +kernel)) (
  mA (i := 1047) (ok_ic (n := 0) (pc := 1515) (by decide +kernel) rfl rfl (by decide +kernel)) (
  mA (i := 1048) (ok_zret (pc := 1516) rfl rfl (by decide +kernel)) (
  mA (i := 1049) (ok_ald_n (f := 1) (pc := 1517) rfl rfl rfl (by decide +kernel)) (
  mA (i := 1050) (ok_ald_n (f := 0) (pc := 1518) rfl rfl rfl (by decide +kernel)) (
  mA (i := 1051) (ok_ild_n (f := 3) (pc := 1519) rfl rfl rfl (by decide +kernel)) (
  mA (i := 1052) (ok_ic (n := 1) (pc := 1520) (by decide +kernel) rfl rfl (by decide +kernel)) (
  mA (i := 1053) (ok_add (pc := 1521) rfl rfl (by decide +kernel)) (
  mA (i := 1054) (ok_sald (pc := 1522) rfl rfl (by decide +kernel)) (
  mA (i := 1055) (ok_callI (pc := 1523) (can_V cal_C_tops (by decide +kernel) rfl (by decide +kernel) rfl wd_1088 wd_1089 wd_1090 wd_35 (by decide +kernel)) rfl rfl) (
  mA (i := 1056) (ok_ald_n (f := 2) (pc := 1526) rfl rfl rfl (by decide +kernel)) (
  mA (i := 1057) (ok_ald_n (f := 0) (pc := 1527) rfl rfl rfl (by decide +kernel)) (
  mA (i := 1058) (ok_ild_n (f := 3) (pc := 1528) rfl rfl rfl (by decide +kernel)) (
  mA (i := 1059) (ok_ic (n := 1) (pc := 1529) (by decide +kernel) rfl rfl (by decide +kernel)) (
  mA (i := 1060) (ok_add (pc := 1530) rfl rfl (by decide +kernel)) (
  mA (i := 1061) (ok_sald (pc := 1531) rfl rfl (by decide +kernel)) (
  mA (i := 1062) (ok_callI (pc := 1532) (can_V cal_N_tops (by decide +kernel) rfl (by decide +kernel) rfl wd_1091 wd_1092 wd_1093 wd_605 (by decide +kernel)) rfl rfl) (
  mA (i := 1063) (ok_ceq (off := 166) (pc := 1535) (tgt := 1701) rfl rfl rfl (by decide +kernel) (by decide +kernel)) (
  mA (i := 1064) (ok_ic (n := 0) (pc := 1538) (by decide +kernel) rfl rfl (by decide +kernel)) (
  mA (i := 1065) (ok_zret (pc := 1539) rfl rfl (by decide +kernel)) (
  mA (i := 1066) (ok_ald_n (f := 1) (pc := 1540) rfl rfl rfl (by decide +kernel)) (
  mA (i := 1067) (ok_ald_n (f := 0) (pc := 1541) rfl rfl rfl (by decide +kernel)) (
  mA (i := 1068) (ok_ild_n (f := 3) (pc := 1542) rfl rfl rfl (by decide +kernel)) (
  mA (i := 1069) (ok_ic (n := 1) (pc := 1543) (by decide +kernel) rfl rfl (by decide +kernel)) (
  mA (i := 1070) (ok_add (pc := 1544) rfl rfl (by decide +kernel)) (
  mA (i := 1071) (ok_sald (pc := 1545) rfl rfl (by decide +kernel)) (
  mA (i := 1072) (ok_ald_n (f := 0) (pc := 1546) rfl rfl rfl (by decide +kernel)) (
  mA (i := 1073) (ok_ild_n (f := 3) (pc := 1547) rfl rfl rfl (by decide +kernel)) (
  mA (i := 1074) (ok_ic (n := 2) (pc := 1548) (by decide +kernel) rfl rfl (by decide +kernel)) (
  mA (i := 1075) (ok_add (pc := 1549) rfl rfl (by decide +kernel)) (
  mA (i := 1076) (ok_sald (pc := 1550) rfl rfl (by decide +kernel)) (
  mA (i := 1077) (ok_callI (pc := 1551) (can_V cal_C_chain (by decide +kernel) rfl (by decide +kernel) rfl wd_1094 wd_1095 wd_1096 wd_35 (by decide +kernel)) rfl rfl) (
  mA (i := 1078) (ok_ald_n (f := 2) (pc := 1554) rfl rfl rfl (by decide +kernel)) (
  mA (i := 1079) (ok_ald_n (f := 0) (pc := 1555) rfl rfl rfl (by decide +kernel)) (
  ok_Lw_law_t1080))))))))))))))))))))))))))))))))))))))))))))))))))))))))))))
set_option maxRecDepth 20000 in
theorem ok_Lw_law_t960 : mAll (mOk RL cL_law 4 true false (some .boolean) (mnat p_Lw_law)) 960 [o_add, o_ald4 31, o_ald 0, o_ild 3, o_ic (nI 2), o_add, o_ald4 31, o_callI 293 3 11, o_ceq 1185, o_ic (nI 0), o_zret, o_ald 1, o_ald 0, o_ild 3, o_ic (nI 1), o_add, o_ald4 31, o_callI 160 2 10, o_ald 2, o_ald 0, o_ild 3, o_ic (nI 1), o_add, o_ald4 31, o_callI 295 2 11, o_ceq 1185, o_ic (nI 0), o_zret, o_ald 1, o_ald 0, o_ild 3, o_ic (nI 1), o_add, o_ald4 31, o_ald 0, o_ild 3, o_ic (nI 2), o_add, o_ald4 31, o_callI 161 3 10, o_ald 2, o_ald 0, o_ild 3, o_ic (nI 1), o_add, o_ald4 31, o_ald 0, o_ild 3, o_ic (nI 2), o_add, o_ald4 31, o_callI 297 3 11, o_ceq 1185, o_ic (nI 0), o_zret, o_ald 1, o_ald 0, o_ild 3, o_ic (nI 1), o_add, o_ald4 31, o_callI 162 2 10, o_ald 2, o_ald 0, o_ild 3, o_ic (nI 1), o_add, o_ald4 31, o_callI 301 2 11, o_ceq 1185, o_ic (nI 0), o_zret, o_ald 1, o_ald 0, o_ild 3, o_ic (nI 1), o_add, o_ald4 31, o_callI 163 2 10, o_ald 2, o_ald 0, o_ild 3, o_ic (nI 1), o_add, o_ald4 31, o_callI 302 2 11, o_ceq 1185, o_ic (nI 0), o_zret, o_ald 1, o_ald 0, o_ild 3, o_ic (nI 1), o_add, o_ald4 31, o_callI 164 2 10, o_ald 2, o_ald 0, o_ild 3, o_ic (nI 1), o_add, o_ald4 31, o_callI 303 2 11, o_ceq 1185, o_ic (nI 0), o_zret, o_ald 1, o_ald 0, o_ild 3, o_ic (nI 1), o_add, o_ald4 31, o_ald 0, o_ild 3, o_ic (nI 2), o_add, o_ald4 31, o_callI 165 3 10, o_ald 2, o_ald 0, o_ild 3, o_ic (nI 1), o_add, o_ald4 31, o_ald 0, o_ild 3, o_ic (nI 2), o_add, o_ald4 31, o_callI 305 3 11, o_ceq 1185, o_ic (nI 0), o_zret, o_ald 1, o_ald 0, o_ild 3, o_ic (nI 1), o_add, o_ald4 31, o_callI 166 2 10, o_ald 2, o_ald 0, o_ild 3, o_ic (nI 1), o_add, o_ald4 31, o_callI 306 2 11, o_ceq 1185, o_ic (nI 0), o_zret, o_ald 1, o_callI 167 1 10, o_ald 2, o_callI 307 1 11, o_ceq 1185, o_ic (nI 0), o_zret, o_ald 1, o_ald 0, o_ild 3, o_ic (nI 1), o_add, o_ald4 31, o_callI 168 2 10, o_ald 2, o_ald 0, o_ild 3, o_ic (nI 1), o_add, o_ald4 31, o_callI 230 2 11, o_ceq 1185, o_ic (nI 0), o_zret, o_ald 1, o_ald 0, o_ild 3, o_ic (nI 1), o_add, o_ald4 31, o_callI 169 2 10, o_ald 2, o_ald 0, o_ild 3, o_ic (nI 1), o_add, o_ald4 31, o_callI 231 2 11, o_ceq 1185, o_ic (nI 0), o_zret, o_ald 1, o_ald 0, o_ild 3, o_ic (nI 1), o_add, o_ald4 31, o_callI 170 2 10, o_ald 2, o_ald 0, o_ild 3, o_ic (nI 1), o_add, o_ald4 31, o_callI 232 2 11, o_ceq 1185, o_ic (nI 0), o_zret, o_ald 1, o_ald 0, o_ild 3, o_ic (nI 1), o_add, o_ald4 31, o_callI 171 2 10, o_ald 2, o_ald 0, o_ild 3, o_ic (nI 1), o_add, o_ald4 31, o_callI 308 2 11, o_ceq 1185, o_ic (nI 0), o_zret, o_inc 3 (nI 6), o_goto 10, o_ic (nI 1), o_zret] := mA (i := 960) (ok_add (pc := 1400) rfl rfl (by decide +kernel)) (
  mA (i := 961) (ok_sald (pc := 1401) rfl rfl (by decide +kernel)) (
  mA (i := 962) (ok_ald_n (f := 0) (pc := 1402) rfl rfl rfl (by decide +kernel)) (
  mA (i := 963) (ok_ild_n (f := 3) (pc := 1403) rfl rfl rfl (by decide +kernel)) (
  mA (i := 964) (ok_ic (n := 2) (pc := 1404) (by decide +kernel) rfl rfl (by decide +kernel)) (
  mA (i := 965) (ok_add (pc := 1405) rfl rfl (by decide +kernel)) (
  mA (i := 966) (ok_sald (pc := 1406) rfl rfl (by decide +kernel)) (
  mA (i := 967) (ok_callI (pc := 1407) (can_V cal_N_pairs (by decide +kernel) rfl (by decide +kernel) rfl wd_1061 wd_1062 wd_1063 wd_605 (by decide +kernel)) rfl rfl) (
  mA (i := 968) (ok_ceq (off := 291) (pc := 1410) (tgt := 1701) rfl rfl rfl (by decide +kernel) (by decide +kernel)) (
  mA (i := 969) (ok_ic (n := 0) (pc := 1413) (by decide +kernel) rfl rfl (by decide +kernel)) (
  mA (i := 970) (ok_zret (pc := 1414) rfl rfl (by decide +kernel)) (
  mA (i := 971) (ok_ald_n (f := 1) (pc := 1415) rfl rfl rfl (by decide +kernel)) (
  mA (i := 972) (ok_ald_n (f := 0) (pc := 1416) rfl rfl rfl (by decide +kernel)) (
  mA (i := 973) (ok_ild_n (f := 3) (pc := 1417) rfl rfl rfl (by decide +kernel)) (
  mA (i := 974) (ok_ic (n := 1) (pc := 1418) (by decide +kernel) rfl rfl (by decide +kernel)) (
  mA (i := 975) (ok_add (pc := 1419) rfl rfl (by decide +kernel)) (
  mA (i := 976) (ok_sald (pc := 1420) rfl rfl (by decide +kernel)) (
  mA (i := 977) (ok_callI (pc := 1421) (can_V cal_C_rate (by decide +kernel) rfl (by decide +kernel) rfl wd_1064 wd_1065 wd_1066 wd_35 (by decide +kernel)) rfl rfl) (
  mA (i := 978) (ok_ald_n (f := 2) (pc := 1424) rfl rfl rfl (by decide +kernel)) (
  mA (i := 979) (ok_ald_n (f := 0) (pc := 1425) rfl rfl rfl (by decide +kernel)) (
  mA (i := 980) (ok_ild_n (f := 3) (pc := 1426) rfl rfl rfl (by decide +kernel)) (
  mA (i := 981) (ok_ic (n := 1) (pc := 1427) (by decide +kernel) rfl rfl (by decide +kernel)) (
  mA (i := 982) (ok_add (pc := 1428) rfl rfl (by decide +kernel)) (
  mA (i := 983) (ok_sald (pc := 1429) rfl rfl (by decide +kernel)) (
  mA (i := 984) (ok_callI (pc := 1430) (can_V cal_N_rate (by decide +kernel) rfl (by decide +kernel) rfl wd_1067 wd_1068 wd_1069 wd_605 (by decide +kernel)) rfl rfl) (
  mA (i := 985) (ok_ceq (off := 268) (pc := 1433) (tgt := 1701) rfl rfl rfl (by decide +kernel) (by decide +kernel)) (
  mA (i := 986) (ok_ic (n := 0) (pc := 1436) (by decide +kernel) rfl rfl (by decide +kernel)) (
  mA (i := 987) (ok_zret (pc := 1437) rfl rfl (by decide +kernel)) (
  mA (i := 988) (ok_ald_n (f := 1) (pc := 1438) rfl rfl rfl (by decide +kernel)) (
  mA (i := 989) (ok_ald_n (f := 0) (pc := 1439) rfl rfl rfl (by decide +kernel)) (
  mA (i := 990) (ok_ild_n (f := 3) (pc := 1440) rfl rfl rfl (by decide +kernel)) (
  mA (i := 991) (ok_ic (n := 1) (pc := 1441) (by decide +kernel) rfl rfl (by decide +kernel)) (
  mA (i := 992) (ok_add (pc := 1442) rfl rfl (by decide +kernel)) (
  mA (i := 993) (ok_sald (pc := 1443) rfl rfl (by decide +kernel)) (
  mA (i := 994) (ok_ald_n (f := 0) (pc := 1444) rfl rfl rfl (by decide +kernel)) (
  mA (i := 995) (ok_ild_n (f := 3) (pc := 1445) rfl rfl rfl (by decide +kernel)) (
  mA (i := 996) (ok_ic (n := 2) (pc := 1446) (by decide +kernel) rfl rfl (by decide +kernel)) (
  mA (i := 997) (ok_add (pc := 1447) rfl rfl (by decide +kernel)) (
  mA (i := 998) (ok_sald (pc := 1448) rfl rfl (by decide +kernel)) (
  mA (i := 999) (ok_callI (pc := 1449) (can_V cal_C_best (by decide +kernel) rfl (by decide +kernel) rfl wd_1070 wd_1071 wd_1072 wd_35 (by decide +kernel)) rfl rfl) (
  mA (i := 1000) (ok_ald_n (f := 2) (pc := 1452) rfl rfl rfl (by decide +kernel)) (
  mA (i := 1001) (ok_ald_n (f := 0) (pc := 1453) rfl rfl rfl (by decide +kernel)) (
  mA (i := 1002) (ok_ild_n (f := 3) (pc := 1454) rfl rfl rfl (by decide +kernel)) (
  mA (i := 1003) (ok_ic (n := 1) (pc := 1455) (by decide +kernel) rfl rfl (by decide +kernel)) (
  mA (i := 1004) (ok_add (pc := 1456) rfl rfl (by decide +kernel)) (
  mA (i := 1005) (ok_sald (pc := 1457) rfl rfl (by decide +kernel)) (
  mA (i := 1006) (ok_ald_n (f := 0) (pc := 1458) rfl rfl rfl (by decide +kernel)) (
  mA (i := 1007) (ok_ild_n (f := 3) (pc := 1459) rfl rfl rfl (by decide +kernel)) (
  mA (i := 1008) (ok_ic (n := 2) (pc := 1460) (by decide +kernel) rfl rfl (by decide +kernel)) (
  mA (i := 1009) (ok_add (pc := 1461) rfl rfl (by decide +kernel)) (
  mA (i := 1010) (ok_sald (pc := 1462) rfl rfl (by decide +kernel)) (
  mA (i := 1011) (ok_callI (pc := 1463) (can_V cal_N_best (by decide +kernel) rfl (by decide +kernel) rfl wd_1073 wd_1074 wd_1075 wd_605 (by decide +kernel)) rfl rfl) (
  mA (i := 1012) (ok_ceq (off := 235) (pc := 1466) (tgt := 1701) rfl rfl rfl (by decide +kernel) (by decide +kernel)) (
  mA (i := 1013) (ok_ic (n := 0) (pc := 1469) (by decide +kernel) rfl rfl (by decide +kernel)) (
  mA (i := 1014) (ok_zret (pc := 1470) rfl rfl (by decide +kernel)) (
  mA (i := 1015) (ok_ald_n (f := 1) (pc := 1471) rfl rfl rfl (by decide +kernel)) (
  mA (i := 1016) (ok_ald_n (f := 0) (pc := 1472) rfl rfl rfl (by decide +kernel)) (
  mA (i := 1017) (ok_ild_n (f := 3) (pc := 1473) rfl rfl rfl (by decide +kernel)) (
  mA (i := 1018) (ok_ic (n := 1) (pc := 1474) (by decide +kernel) rfl rfl (by decide +kernel)) (
  mA (i := 1019) (ok_add (pc := 1475) rfl rfl (by decide +kernel)) (
  ok_Lw_law_t1020))))))))))))))))))))))))))))))))))))))))))))))))))))))))))))
set_option maxRecDepth 20000 in
theorem ok_Lw_law_t900 : mAll (mOk RL cL_law 4 true false (some .boolean) (mnat p_Lw_law)) 900 [o_ald4 31, o_callI 157 3 10, o_ald 2, o_ald 0, o_ild 3, o_ic (nI 1), o_add, o_ald4 31, o_ald 0, o_ild 3, o_ic (nI 2), o_add, o_ald4 31, o_callI 287 3 11, o_ceq 1185, o_ic (nI 0), o_zret, o_ald 1, o_ald 0, o_ild 3, o_ic (nI 1), o_add, o_ald4 31, o_ald 0, o_ild 3, o_ic (nI 2), o_add, o_ald4 31, o_callI 158 3 10, o_ald 2, o_ald 0, o_ild 3, o_ic (nI 1), o_add, o_ald4 31, o_ald 0, o_ild 3, o_ic (nI 2), o_add, o_ald4 31, o_callI 286 3 11, o_ceq 1185, o_ic (nI 0), o_zret, o_ald 1, o_ald 0, o_ild 3, o_ic (nI 1), o_add, o_ald4 31, o_ald 0, o_ild 3, o_ic (nI 2), o_add, o_ald4 31, o_callI 159 3 10, o_ald 2, o_ald 0, o_ild 3, o_ic (nI 1), o_add, o_ald4 31, o_ald 0, o_ild 3, o_ic (nI 2), o_add, o_ald4 31, o_callI 293 3 11, o_ceq 1185, o_ic (nI 0), o_zret, o_ald 1, o_ald 0, o_ild 3, o_ic (nI 1), o_add, o_ald4 31, o_callI 160 2 10, o_ald 2, o_ald 0, o_ild 3, o_ic (nI 1), o_add, o_ald4 31, o_callI 295 2 11, o_ceq 1185, o_ic (nI 0), o_zret, o_ald 1, o_ald 0, o_ild 3, o_ic (nI 1), o_add, o_ald4 31, o_ald 0, o_ild 3, o_ic (nI 2), o_add, o_ald4 31, o_callI 161 3 10, o_ald 2, o_ald 0, o_ild 3, o_ic (nI 1), o_add, o_ald4 31, o_ald 0, o_ild 3, o_ic (nI 2), o_add, o_ald4 31, o_callI 297 3 11, o_ceq 1185, o_ic (nI 0), o_zret, o_ald 1, o_ald 0, o_ild 3, o_ic (nI 1), o_add, o_ald4 31, o_callI 162 2 10, o_ald 2, o_ald 0, o_ild 3, o_ic (nI 1), o_add, o_ald4 31, o_callI 301 2 11, o_ceq 1185, o_ic (nI 0), o_zret, o_ald 1, o_ald 0, o_ild 3, o_ic (nI 1), o_add, o_ald4 31, o_callI 163 2 10, o_ald 2, o_ald 0, o_ild 3, o_ic (nI 1), o_add, o_ald4 31, o_callI 302 2 11, o_ceq 1185, o_ic (nI 0), o_zret, o_ald 1, o_ald 0, o_ild 3, o_ic (nI 1), o_add, o_ald4 31, o_callI 164 2 10, o_ald 2, o_ald 0, o_ild 3, o_ic (nI 1), o_add, o_ald4 31, o_callI 303 2 11, o_ceq 1185, o_ic (nI 0), o_zret, o_ald 1, o_ald 0, o_ild 3, o_ic (nI 1), o_add, o_ald4 31, o_ald 0, o_ild 3, o_ic (nI 2), o_add, o_ald4 31, o_callI 165 3 10, o_ald 2, o_ald 0, o_ild 3, o_ic (nI 1), o_add, o_ald4 31, o_ald 0, o_ild 3, o_ic (nI 2), o_add, o_ald4 31, o_callI 305 3 11, o_ceq 1185, o_ic (nI 0), o_zret, o_ald 1, o_ald 0, o_ild 3, o_ic (nI 1), o_add, o_ald4 31, o_callI 166 2 10, o_ald 2, o_ald 0, o_ild 3, o_ic (nI 1), o_add, o_ald4 31, o_callI 306 2 11, o_ceq 1185, o_ic (nI 0), o_zret, o_ald 1, o_callI 167 1 10, o_ald 2, o_callI 307 1 11, o_ceq 1185, o_ic (nI 0), o_zret, o_ald 1, o_ald 0, o_ild 3, o_ic (nI 1), o_add, o_ald4 31, o_callI 168 2 10, o_ald 2, o_ald 0, o_ild 3, o_ic (nI 1), o_add, o_ald4 31, o_callI 230 2 11, o_ceq 1185, o_ic (nI 0), o_zret, o_ald 1, o_ald 0, o_ild 3, o_ic (nI 1), o_add, o_ald4 31, o_callI 169 2 10, o_ald 2, o_ald 0, o_ild 3, o_ic (nI 1), o_add, o_ald4 31, o_callI 231 2 11, o_ceq 1185, o_ic (nI 0), o_zret, o_ald 1, o_ald 0, o_ild 3, o_ic (nI 1), o_add, o_ald4 31, o_callI 170 2 10, o_ald 2, o_ald 0, o_ild 3, o_ic (nI 1), o_add, o_ald4 31, o_callI 232 2 11, o_ceq 1185, o_ic (nI 0), o_zret, o_ald 1, o_ald 0, o_ild 3, o_ic (nI 1), o_add, o_ald4 31, o_callI 171 2 10, o_ald 2, o_ald 0, o_ild 3, o_ic (nI 1), o_add, o_ald4 31, o_callI 308 2 11, o_ceq 1185, o_ic (nI 0), o_zret, o_inc 3 (nI 6), o_goto 10, o_ic (nI 1), o_zret] := mA (i := 900) (ok_sald (pc := 1326) rfl rfl (by decide +kernel)) (
  mA (i := 901) (ok_callI (pc := 1327) (can_V cal_C_candidates (by decide +kernel) rfl (by decide +kernel) rfl wd_1046 wd_1047 wd_1048 wd_35 (by decide +kernel)) rfl rfl) (
  mA (i := 902) (ok_ald_n (f := 2) (pc := 1330) rfl rfl rfl (by decide +kernel)) (
  mA (i := 903) (ok_ald_n (f := 0) (pc := 1331) rfl rfl rfl (by decide +kernel)) (
  mA (i := 904) (ok_ild_n (f := 3) (pc := 1332) rfl rfl rfl (by decide +kernel)) (
  mA (i := 905) (ok_ic (n := 1) (pc := 1333) (by decide +kernel) rfl rfl (by decide +kernel)) (
  mA (i := 906) (ok_add (pc := 1334) rfl rfl (by decide +kernel)) (
  mA (i := 907) (ok_sald (pc := 1335) rfl rfl (by decide +kernel)) (
  mA (i := 908) (ok_ald_n (f := 0) (pc := 1336) rfl rfl rfl (by decide +kernel)) (
  mA (i := 909) (ok_ild_n (f := 3) (pc := 1337) rfl rfl rfl (by decide +kernel)) (
  mA (i := 910) (ok_ic (n := 2) (pc := 1338) (by decide +kernel) rfl rfl (by decide +kernel)) (
  mA (i := 911) (ok_add (pc := 1339) rfl rfl (by decide +kernel)) (
  mA (i := 912) (ok_sald (pc := 1340) rfl rfl (by decide +kernel)) (
  mA (i := 913) (ok_callI (pc := 1341) (can_V cal_N_candidates (by decide +kernel) rfl (by decide +kernel) rfl wd_1049 wd_1050 wd_1051 wd_605 (by decide +kernel)) rfl rfl) (
  mA (i := 914) (ok_ceq (off := 357) (pc := 1344) (tgt := 1701) rfl rfl rfl (by decide +kernel) (by decide +kernel)) (
  mA (i := 915) (ok_ic (n := 0) (pc := 1347) (by decide +kernel) rfl rfl (by decide +kernel)) (
  mA (i := 916) (ok_zret (pc := 1348) rfl rfl (by decide +kernel)) (
  mA (i := 917) (ok_ald_n (f := 1) (pc := 1349) rfl rfl rfl (by decide +kernel)) (
  mA (i := 918) (ok_ald_n (f := 0) (pc := 1350) rfl rfl rfl (by decide +kernel)) (
  mA (i := 919) (ok_ild_n (f := 3) (pc := 1351) rfl rfl rfl (by decide +kernel)) (
  mA (i := 920) (ok_ic (n := 1) (pc := 1352) (by decide +kernel) rfl rfl (by decide +kernel)) (
  mA (i := 921) (ok_add (pc := 1353) rfl rfl (by decide +kernel)) (
  mA (i := 922) (ok_sald (pc := 1354) rfl rfl (by decide +kernel)) (
  mA (i := 923) (ok_ald_n (f := 0) (pc := 1355) rfl rfl rfl (by decide +kernel)) (
  mA (i := 924) (ok_ild_n (f := 3) (pc := 1356) rfl rfl rfl (by decide +kernel)) (
  mA (i := 925) (ok_ic (n := 2) (pc := 1357) (by decide +kernel) rfl rfl (by decide +kernel)) (
  mA (i := 926) (ok_add (pc := 1358) rfl rfl (by decide +kernel)) (
  mA (i := 927) (ok_sald (pc := 1359) rfl rfl (by decide +kernel)) (
  mA (i := 928) (ok_callI (pc := 1360) (can_V cal_C_total (by decide +kernel) rfl (by decide +kernel) rfl wd_1052 wd_1053 wd_1054 wd_35 (by decide +kernel)) rfl rfl) (
  mA (i := 929) (ok_ald_n (f := 2) (pc := 1363) rfl rfl rfl (by decide +kernel)) (
  mA (i := 930) (ok_ald_n (f := 0) (pc := 1364) rfl rfl rfl (by decide +kernel)) (
  mA (i := 931) (ok_ild_n (f := 3) (pc := 1365) rfl rfl rfl (by decide +kernel)) (
  mA (i := 932) (ok_ic (n := 1) (pc := 1366) (by decide +kernel) rfl rfl (by decide +kernel)) (
  mA (i := 933) (ok_add (pc := 1367) rfl rfl (by decide +kernel)) (
  mA (i := 934) (ok_sald (pc := 1368) rfl rfl (by decide +kernel)) (
  mA (i := 935) (ok_ald_n (f := 0) (pc := 1369) rfl rfl rfl (by decide +kernel)) (
  mA (i := 936) (ok_ild_n (f := 3) (pc := 1370) rfl rfl rfl (by decide +kernel)) (
  mA (i := 937) (ok_ic (n := 2) (pc := 1371) (by decide +kernel) rfl rfl (by decide +kernel)) (
  mA (i := 938) (ok_add (pc := 1372) rfl rfl (by decide +kernel)) (
  mA (i := 939) (ok_sald (pc := 1373) rfl rfl (by decide +kernel)) (
  mA (i := 940) (ok_callI (pc := 1374) (can_V cal_N_total (by decide +kernel) rfl (by decide +kernel) rfl wd_1055 wd_1056 wd_1057 wd_605 (by decide +kernel)) rfl rfl) (
  mA (i := 941) (ok_ceq (off := 324) (pc := 1377) (tgt := 1701) rfl rfl rfl (by decide +kernel) (by decide +kernel)) (
  mA (i := 942) (ok_ic (n := 0) (pc := 1380) (by decide +kernel) rfl rfl (by decide +kernel)) (
  mA (i := 943) (ok_zret (pc := 1381) rfl rfl (by decide +kernel)) (
  mA (i := 944) (ok_ald_n (f := 1) (pc := 1382) rfl rfl rfl (by decide +kernel)) (
  mA (i := 945) (ok_ald_n (f := 0) (pc := 1383) rfl rfl rfl (by decide +kernel)) (
  mA (i := 946) (ok_ild_n (f := 3) (pc := 1384) rfl rfl rfl (by decide +kernel)) (
  mA (i := 947) (ok_ic (n := 1) (pc := 1385) (by decide +kernel) rfl rfl (by decide +kernel)) (
  mA (i := 948) (ok_add (pc := 1386) rfl rfl (by decide +kernel)) (
  mA (i := 949) (ok_sald (pc := 1387) rfl rfl (by decide +kernel)) (
  mA (i := 950) (ok_ald_n (f := 0) (pc := 1388) rfl rfl rfl (by decide +kernel)) (
  mA (i := 951) (ok_ild_n (f := 3) (pc := 1389) rfl rfl rfl (by decide +kernel)) (
  mA (i := 952) (ok_ic (n := 2) (pc := 1390) (by decide +kernel) rfl rfl (by decide +kernel)) (
  mA (i := 953) (ok_add (pc := 1391) rfl rfl (by decide +kernel)) (
  mA (i := 954) (ok_sald (pc := 1392) rfl rfl (by decide +kernel)) (
  mA (i := 955) (ok_callI (pc := 1393) (can_V cal_C_pairs (by decide +kernel) rfl (by decide +kernel) rfl wd_1058 wd_1059 wd_1060 wd_35 (by decide +kernel)) rfl rfl) (
  mA (i := 956) (ok_ald_n (f := 2) (pc := 1396) rfl rfl rfl (by decide +kernel)) (
  mA (i := 957) (ok_ald_n (f := 0) (pc := 1397) rfl rfl rfl (by decide +kernel)) (
  mA (i := 958) (ok_ild_n (f := 3) (pc := 1398) rfl rfl rfl (by decide +kernel)) (
  mA (i := 959) (ok_ic (n := 1) (pc := 1399) (by decide +kernel) rfl rfl (by decide +kernel)) (
  ok_Lw_law_t960))))))))))))))))))))))))))))))))))))))))))))))))))))))))))))
set_option maxRecDepth 20000 in
theorem ok_Lw_law_t840 : mAll (mOk RL cL_law 4 true false (some .boolean) (mnat p_Lw_law)) 840 [o_add, o_ald4 31, o_ald 0, o_ild 3, o_ic (nI 2), o_add, o_ald4 31, o_callI 155 3 10, o_ald 2, o_ald 0, o_ild 3, o_ic (nI 1), o_add, o_ald4 31, o_ald 0, o_ild 3, o_ic (nI 2), o_add, o_ald4 31, o_callI 290 3 11, o_ceq 1185, o_ic (nI 0), o_zret, o_ald 1, o_ald 0, o_ild 3, o_ic (nI 1), o_add, o_ald4 31, o_ald 0, o_ild 3, o_ic (nI 2), o_add, o_ald4 31, o_callI 156 3 10, o_ald 2, o_ald 0, o_ild 3, o_ic (nI 1), o_add, o_ald4 31, o_ald 0, o_ild 3, o_ic (nI 2), o_add, o_ald4 31, o_callI 285 3 11, o_ceq 1185, o_ic (nI 0), o_zret, o_ald 1, o_ald 0, o_ild 3, o_ic (nI 1), o_add, o_ald4 31, o_ald 0, o_ild 3, o_ic (nI 2), o_add, o_ald4 31, o_callI 157 3 10, o_ald 2, o_ald 0, o_ild 3, o_ic (nI 1), o_add, o_ald4 31, o_ald 0, o_ild 3, o_ic (nI 2), o_add, o_ald4 31, o_callI 287 3 11, o_ceq 1185, o_ic (nI 0), o_zret, o_ald 1, o_ald 0, o_ild 3, o_ic (nI 1), o_add, o_ald4 31, o_ald 0, o_ild 3, o_ic (nI 2), o_add, o_ald4 31, o_callI 158 3 10, o_ald 2, o_ald 0, o_ild 3, o_ic (nI 1), o_add, o_ald4 31, o_ald 0, o_ild 3, o_ic (nI 2), o_add, o_ald4 31, o_callI 286 3 11, o_ceq 1185, o_ic (nI 0), o_zret, o_ald 1, o_ald 0, o_ild 3, o_ic (nI 1), o_add, o_ald4 31, o_ald 0, o_ild 3, o_ic (nI 2), o_add, o_ald4 31, o_callI 159 3 10, o_ald 2, o_ald 0, o_ild 3, o_ic (nI 1), o_add, o_ald4 31, o_ald 0, o_ild 3, o_ic (nI 2), o_add, o_ald4 31, o_callI 293 3 11, o_ceq 1185, o_ic (nI 0), o_zret, o_ald 1, o_ald 0, o_ild 3, o_ic (nI 1), o_add, o_ald4 31, o_callI 160 2 10, o_ald 2, o_ald 0, o_ild 3, o_ic (nI 1), o_add, o_ald4 31, o_callI 295 2 11, o_ceq 1185, o_ic (nI 0), o_zret, o_ald 1, o_ald 0, o_ild 3, o_ic (nI 1), o_add, o_ald4 31, o_ald 0, o_ild 3, o_ic (nI 2), o_add, o_ald4 31, o_callI 161 3 10, o_ald 2, o_ald 0, o_ild 3, o_ic (nI 1), o_add, o_ald4 31, o_ald 0, o_ild 3, o_ic (nI 2), o_add, o_ald4 31, o_callI 297 3 11, o_ceq 1185, o_ic (nI 0), o_zret, o_ald 1, o_ald 0, o_ild 3, o_ic (nI 1), o_add, o_ald4 31, o_callI 162 2 10, o_ald 2, o_ald 0, o_ild 3, o_ic (nI 1), o_add, o_ald4 31, o_callI 301 2 11, o_ceq 1185, o_ic (nI 0), o_zret, o_ald 1, o_ald 0, o_ild 3, o_ic (nI 1), o_add, o_ald4 31, o_callI 163 2 10, o_ald 2, o_ald 0, o_ild 3, o_ic (nI 1), o_add, o_ald4 31, o_callI 302 2 11, o_ceq 1185, o_ic (nI 0), o_zret, o_ald 1, o_ald 0, o_ild 3, o_ic (nI 1), o_add, o_ald4 31, o_callI 164 2 10, o_ald 2, o_ald 0, o_ild 3, o_ic (nI 1), o_add, o_ald4 31, o_callI 303 2 11, o_ceq 1185, o_ic (nI 0), o_zret, o_ald 1, o_ald 0, o_ild 3, o_ic (nI 1), o_add, o_ald4 31, o_ald 0, o_ild 3, o_ic (nI 2), o_add, o_ald4 31, o_callI 165 3 10, o_ald 2, o_ald 0, o_ild 3, o_ic (nI 1), o_add, o_ald4 31, o_ald 0, o_ild 3, o_ic (nI 2), o_add, o_ald4 31, o_callI 305 3 11, o_ceq 1185, o_ic (nI 0), o_zret, o_ald 1, o_ald 0, o_ild 3, o_ic (nI 1), o_add, o_ald4 31, o_callI 166 2 10, o_ald 2, o_ald 0, o_ild 3, o_ic (nI 1), o_add, o_ald4 31, o_callI 306 2 11, o_ceq 1185, o_ic (nI 0), o_zret, o_ald 1, o_callI 167 1 10, o_ald 2, o_callI 307 1 11, o_ceq 1185, o_ic (nI 0), o_zret, o_ald 1, o_ald 0, o_ild 3, o_ic (nI 1), o_add, o_ald4 31, o_callI 168 2 10, o_ald 2, o_ald 0, o_ild 3, o_ic (nI 1), o_add, o_ald4 31, o_callI 230 2 11, o_ceq 1185, o_ic (nI 0), o_zret, o_ald 1, o_ald 0, o_ild 3, o_ic (nI 1), o_add, o_ald4 31, o_callI 169 2 10, o_ald 2, o_ald 0, o_ild 3, o_ic (nI 1), o_add, o_ald4 31, o_callI 231 2 11, o_ceq 1185, o_ic (nI 0), o_zret, o_ald 1, o_ald 0, o_ild 3, o_ic (nI 1), o_add, o_ald4 31, o_callI 170 2 10, o_ald 2, o_ald 0, o_ild 3, o_ic (nI 1), o_add, o_ald4 31, o_callI 232 2 11, o_ceq 1185, o_ic (nI 0), o_zret, o_ald 1, o_ald 0, o_ild 3, o_ic (nI 1), o_add, o_ald4 31, o_callI 171 2 10, o_ald 2, o_ald 0, o_ild 3, o_ic (nI 1), o_add, o_ald4 31, o_callI 308 2 11, o_ceq 1185, o_ic (nI 0), o_zret, o_inc 3 (nI 6), o_goto 10, o_ic (nI 1), o_zret] := mA (i := 840) (ok_add (pc := 1254) rfl rfl (by decide +kernel)) (
  mA (i := 841) (ok_sald (pc := 1255) rfl rfl (by decide +kernel)) (
  mA (i := 842) (ok_ald_n (f := 0) (pc := 1256) rfl rfl rfl (by decide +kernel)) (
  mA (i := 843) (ok_ild_n (f := 3) (pc := 1257) rfl rfl rfl (by decide +kernel)) (
  mA (i := 844) (ok_ic (n := 2) (pc := 1258) (by decide +kernel) rfl rfl (by decide +kernel)) (
  mA (i := 845) (ok_add (pc := 1259) rfl rfl (by decide +kernel)) (
  mA (i := 846) (ok_sald (pc := 1260) rfl rfl (by decide +kernel)) (
  mA (i := 847) (ok_callI (pc := 1261) (can_V cal_C_backward (by decide +kernel) rfl (by decide +kernel) rfl wd_1034 wd_1035 wd_1036 wd_35 (by decide +kernel)) rfl rfl) (
  mA (i := 848) (ok_ald_n (f := 2) (pc := 1264) rfl rfl rfl (by decide +kernel)) (
  mA (i := 849) (ok_ald_n (f := 0) (pc := 1265) rfl rfl rfl (by decide +kernel)) (
  mA (i := 850) (ok_ild_n (f := 3) (pc := 1266) rfl rfl rfl (by decide +kernel)) (
  mA (i := 851) (ok_ic (n := 1) (pc := 1267) (by decide +kernel) rfl rfl (by decide +kernel)) (
  mA (i := 852) (ok_add (pc := 1268) rfl rfl (by decide +kernel)) (
  mA (i := 853) (ok_sald (pc := 1269) rfl rfl (by decide +kernel)) (
  mA (i := 854) (ok_ald_n (f := 0) (pc := 1270) rfl rfl rfl (by decide +kernel)) (
  mA (i := 855) (ok_ild_n (f := 3) (pc := 1271) rfl rfl rfl (by decide +kernel)) (
  mA (i := 856) (ok_ic (n := 2) (pc := 1272) (by decide +kernel) rfl rfl (by decide +kernel)) (
  mA (i := 857) (ok_add (pc := 1273) rfl rfl (by decide +kernel)) (
  mA (i := 858) (ok_sald (pc := 1274) rfl rfl (by decide +kernel)) (
  mA (i := 859) (ok_callI (pc := 1275) (can_V cal_N_backward (by decide +kernel) rfl (by decide +kernel) rfl wd_1037 wd_1038 wd_1039 wd_605 (by decide +kernel)) rfl rfl) (
  mA (i := 860) (ok_ceq (off := 423) (pc := 1278) (tgt := 1701) rfl rfl rfl (by decide +kernel) (by decide +kernel)) (
  mA (i := 861) (ok_ic (n := 0) (pc := 1281) (by decide +kernel) rfl rfl (by decide +kernel)) (
  mA (i := 862) (ok_zret (pc := 1282) rfl rfl (by decide +kernel)) (
  mA (i := 863) (ok_ald_n (f := 1) (pc := 1283) rfl rfl rfl (by decide +kernel)) (
  mA (i := 864) (ok_ald_n (f := 0) (pc := 1284) rfl rfl rfl (by decide +kernel)) (
  mA (i := 865) (ok_ild_n (f := 3) (pc := 1285) rfl rfl rfl (by decide +kernel)) (
  mA (i := 866) (ok_ic (n := 1) (pc := 1286) (by decide +kernel) rfl rfl (by decide +kernel)) (
  mA (i := 867) (ok_add (pc := 1287) rfl rfl (by decide +kernel)) (
  mA (i := 868) (ok_sald (pc := 1288) rfl rfl (by decide +kernel)) (
  mA (i := 869) (ok_ald_n (f := 0) (pc := 1289) rfl rfl rfl (by decide +kernel)) (
  mA (i := 870) (ok_ild_n (f := 3) (pc := 1290) rfl rfl rfl (by decide +kernel)) (
  mA (i := 871) (ok_ic (n := 2) (pc := 1291) (by decide +kernel) rfl rfl (by decide +kernel)) (
  mA (i := 872) (ok_add (pc := 1292) rfl rfl (by decide +kernel)) (
  mA (i := 873) (ok_sald (pc := 1293) rfl rfl (by decide +kernel)) (
  mA (i := 874) (ok_callI (pc := 1294) (can_V cal_C_visited (by decide +kernel) rfl (by decide +kernel) rfl wd_1040 wd_1041 wd_1042 wd_35 (by decide +kernel)) rfl rfl) (
  mA (i := 875) (ok_ald_n (f := 2) (pc := 1297) rfl rfl rfl (by decide +kernel)) (
  mA (i := 876) (ok_ald_n (f := 0) (pc := 1298) rfl rfl rfl (by decide +kernel)) (
  mA (i := 877) (ok_ild_n (f := 3) (pc := 1299) rfl rfl rfl (by decide +kernel)) (
  mA (i := 878) (ok_ic (n := 1) (pc := 1300) (by decide +kernel) rfl rfl (by decide +kernel)) (
  mA (i := 879) (ok_add (pc := 1301) rfl rfl (by decide +kernel)) (
  mA (i := 880) (ok_sald (pc := 1302) rfl rfl (by decide +kernel)) (
  mA (i := 881) (ok_ald_n (f := 0) (pc := 1303) rfl rfl rfl (by decide +kernel)) (
  mA (i := 882) (ok_ild_n (f := 3) (pc := 1304) rfl rfl rfl (by decide +kernel)) (
  mA (i := 883) (ok_ic (n := 2) (pc := 1305) (by decide +kernel) rfl rfl (by decide +kernel)) (
  mA (i := 884) (ok_add (pc := 1306) rfl rfl (by decide +kernel)) (
  mA (i := 885) (ok_sald (pc := 1307) rfl rfl (by decide +kernel)) (
  mA (i := 886) (ok_callI (pc := 1308) (can_V cal_N_visited (by decide +kernel) rfl (by decide +kernel) rfl wd_1043 wd_1044 wd_1045 wd_605 (by decide +kernel)) rfl rfl) (
  mA (i := 887) (ok_ceq (off := 390) (pc := 1311) (tgt := 1701) rfl rfl rfl (by decide +kernel) (by decide +kernel)) (
  mA (i := 888) (ok_ic (n := 0) (pc := 1314) (by decide +kernel) rfl rfl (by decide +kernel)) (
  mA (i := 889) (ok_zret (pc := 1315) rfl rfl (by decide +kernel)) (
  mA (i := 890) (ok_ald_n (f := 1) (pc := 1316) rfl rfl rfl (by decide +kernel)) (
  mA (i := 891) (ok_ald_n (f := 0) (pc := 1317) rfl rfl rfl (by decide +kernel)) (
  mA (i := 892) (ok_ild_n (f := 3) (pc := 1318) rfl rfl rfl (by decide +kernel)) (
  mA (i := 893) (ok_ic (n := 1) (pc := 1319) (by decide +kernel) rfl rfl (by decide +kernel)) (
  mA (i := 894) (ok_add (pc := 1320) rfl rfl (by decide +kernel)) (
  mA (i := 895) (ok_sald (pc := 1321) rfl rfl (by decide +kernel)) (
  mA (i := 896) (ok_ald_n (f := 0) (pc := 1322) rfl rfl rfl (by decide +kernel)) (
  mA (i := 897) (ok_ild_n (f := 3) (pc := 1323) rfl rfl rfl (by decide +kernel)) (
  mA (i := 898) (ok_ic (n := 2) (pc := 1324) (by decide +kernel) rfl rfl (by decide +kernel)) (
  mA (i := 899) (ok_add (pc := 1325) rfl rfl (by decide +kernel)) (
  ok_Lw_law_t900))))))))))))))))))))))))))))))))))))))))))))))))))))))))))))
set_option maxRecDepth 20000 in
theorem ok_Lw_law_t780 : mAll (mOk RL cL_law 4 true false (some .boolean) (mnat p_Lw_law)) 780 [o_ic (nI 1), o_add, o_ald4 31, o_ald 0, o_ild 3, o_ic (nI 2), o_add, o_ald4 31, o_callI 281 3 11, o_ceq 1185, o_ic (nI 0), o_zret, o_ald 1, o_ald 0, o_ild 3, o_ic (nI 1), o_add, o_ald4 31, o_callI 153 2 10, o_ald 2, o_ald 0, o_ild 3, o_ic (nI 1), o_add, o_ald4 31, o_callI 282 2 11, o_ceq 1185, o_ic (nI 0), o_zret, o_ald 1, o_ald 0, o_ild 3, o_ic (nI 1), o_add, o_ald4 31, o_ald 0, o_ild 3, o_ic (nI 2), o_add, o_ald4 31, o_callI 154 3 10, o_ald 2, o_ald 0, o_ild 3, o_ic (nI 1), o_add, o_ald4 31, o_ald 0, o_ild 3, o_ic (nI 2), o_add, o_ald4 31, o_callI 289 3 11, o_ceq 1185, o_ic (nI 0), o_zret, o_ald 1, o_ald 0, o_ild 3, o_ic (nI 1), o_add, o_ald4 31, o_ald 0, o_ild 3, o_ic (nI 2), o_add, o_ald4 31, o_callI 155 3 10, o_ald 2, o_ald 0, o_ild 3, o_ic (nI 1), o_add, o_ald4 31, o_ald 0, o_ild 3, o_ic (nI 2), o_add, o_ald4 31, o_callI 290 3 11, o_ceq 1185, o_ic (nI 0), o_zret, o_ald 1, o_ald 0, o_ild 3, o_ic (nI 1), o_add, o_ald4 31, o_ald 0, o_ild 3, o_ic (nI 2), o_add, o_ald4 31, o_callI 156 3 10, o_ald 2, o_ald 0, o_ild 3, o_ic (nI 1), o_add, o_ald4 31, o_ald 0, o_ild 3, o_ic (nI 2), o_add, o_ald4 31, o_callI 285 3 11, o_ceq 1185, o_ic (nI 0), o_zret, o_ald 1, o_ald 0, o_ild 3, o_ic (nI 1), o_add, o_ald4 31, o_ald 0, o_ild 3, o_ic (nI 2), o_add, o_ald4 31, o_callI 157 3 10, o_ald 2, o_ald 0, o_ild 3, o_ic (nI 1), o_add, o_ald4 31, o_ald 0, o_ild 3, o_ic (nI 2), o_add, o_ald4 31, o_callI 287 3 11, o_ceq 1185, o_ic (nI 0), o_zret, o_ald 1, o_ald 0, o_ild 3, o_ic (nI 1), o_add, o_ald4 31, o_ald 0, o_ild 3, o_ic (nI 2), o_add, o_ald4 31, o_callI 158 3 10, o_ald 2, o_ald 0, o_ild 3, o_ic (nI 1), o_add, o_ald4 31, o_ald 0, o_ild 3, o_ic (nI 2), o_add, o_ald4 31, o_callI 286 3 11, o_ceq 1185, o_ic (nI 0), o_zret, o_ald 1, o_ald 0, o_ild 3, o_ic (nI 1), o_add, o_ald4 31, o_ald 0, o_ild 3, o_ic (nI 2), o_add, o_ald4 31, o_callI 159 3 10, o_ald 2, o_ald 0, o_ild 3, o_ic (nI 1), o_add, o_ald4 31, o_ald 0, o_ild 3, o_ic (nI 2), o_add, o_ald4 31, o_callI 293 3 11, o_ceq 1185, o_ic (nI 0), o_zret, o_ald 1, o_ald 0, o_ild 3, o_ic (nI 1), o_add, o_ald4 31, o_callI 160 2 10, o_ald 2, o_ald 0, o_ild 3, o_ic (nI 1), o_add, o_ald4 31, o_callI 295 2 11, o_ceq 1185, o_ic (nI 0), o_zret, o_ald 1, o_ald 0, o_ild 3, o_ic (nI 1), o_add, o_ald4 31, o_ald 0, o_ild 3, o_ic (nI 2), o_add, o_ald4 31, o_callI 161 3 10, o_ald 2, o_ald 0, o_ild 3, o_ic (nI 1), o_add, o_ald4 31, o_ald 0, o_ild 3, o_ic (nI 2), o_add, o_ald4 31, o_callI 297 3 11, o_ceq 1185, o_ic (nI 0), o_zret, o_ald 1, o_ald 0, o_ild 3, o_ic (nI 1), o_add, o_ald4 31, o_callI 162 2 10, o_ald 2, o_ald 0, o_ild 3, o_ic (nI 1), o_add, o_ald4 31, o_callI 301 2 11, o_ceq 1185, o_ic (nI 0), o_zret, o_ald 1, o_ald 0, o_ild 3, o_ic (nI 1), o_add, o_ald4 31, o_callI 163 2 10, o_ald 2, o_ald 0, o_ild 3, o_ic (nI 1), o_add, o_ald4 31, o_callI 302 2 11, o_ceq 1185, o_ic (nI 0), o_zret, o_ald 1, o_ald 0, o_ild 3, o_ic (nI 1), o_add, o_ald4 31, o_callI 164 2 10, o_ald 2, o_ald 0, o_ild 3, o_ic (nI 1), o_add, o_ald4 31, o_callI 303 2 11, o_ceq 1185, o_ic (nI 0), o_zret, o_ald 1, o_ald 0, o_ild 3, o_ic (nI 1), o_add, o_ald4 31, o_ald 0, o_ild 3, o_ic (nI 2), o_add, o_ald4 31, o_callI 165 3 10, o_ald 2, o_ald 0, o_ild 3, o_ic (nI 1), o_add, o_ald4 31, o_ald 0, o_ild 3, o_ic (nI 2), o_add, o_ald4 31, o_callI 305 3 11, o_ceq 1185, o_ic (nI 0), o_zret, o_ald 1, o_ald 0, o_ild 3, o_ic (nI 1), o_add, o_ald4 31, o_callI 166 2 10, o_ald 2, o_ald 0, o_ild 3, o_ic (nI 1), o_add, o_ald4 31, o_callI 306 2 11, o_ceq 1185, o_ic (nI 0), o_zret, o_ald 1, o_callI 167 1 10, o_ald 2, o_callI 307 1 11, o_ceq 1185, o_ic (nI 0), o_zret, o_ald 1, o_ald 0, o_ild 3, o_ic (nI 1), o_add, o_ald4 31, o_callI 168 2 10, o_ald 2, o_ald 0, o_ild 3, o_ic (nI 1), o_add, o_ald4 31, o_callI 230 2 11, o_ceq 1185, o_ic (nI 0), o_zret, o_ald 1, o_ald 0, o_ild 3, o_ic (nI 1), o_add, o_ald4 31, o_callI 169 2 10, o_ald 2, o_ald 0, o_ild 3, o_ic (nI 1), o_add, o_ald4 31, o_callI 231 2 11, o_ceq 1185, o_ic (nI 0), o_zret, o_ald 1, o_ald 0, o_ild 3, o_ic (nI 1), o_add, o_ald4 31, o_callI 170 2 10, o_ald 2, o_ald 0, o_ild 3, o_ic (nI 1), o_add, o_ald4 31, o_callI 232 2 11, o_ceq 1185, o_ic (nI 0), o_zret, o_ald 1, o_ald 0, o_ild 3, o_ic (nI 1), o_add, o_ald4 31, o_callI 171 2 10, o_ald 2, o_ald 0, o_ild 3, o_ic (nI 1), o_add, o_ald4 31, o_callI 308 2 11, o_ceq 1185, o_ic (nI 0), o_zret, o_inc 3 (nI 6), o_goto 10, o_ic (nI 1), o_zret] := mA (i := 780) (ok_ic (n := 1) (pc := 1178) (by decide +kernel) rfl rfl (by decide +kernel)) (
  mA (i := 781) (ok_add (pc := 1179) rfl rfl (by decide +kernel)) (
  mA (i := 782) (ok_sald (pc := 1180) rfl rfl (by decide +kernel)) (
  mA (i := 783) (ok_ald_n (f := 0) (pc := 1181) rfl rfl rfl (by decide +kernel)) (
  mA (i := 784) (ok_ild_n (f := 3) (pc := 1182) rfl rfl rfl (by decide +kernel)) (
  mA (i := 785) (ok_ic (n := 2) (pc := 1183) (by decide +kernel) rfl rfl (by decide +kernel)) (
  mA (i := 786) (ok_add (pc := 1184) rfl rfl (by decide +kernel)) (
  mA (i := 787) (ok_sald (pc := 1185) rfl rfl (by decide +kernel)) (
  mA (i := 788) (ok_callI (pc := 1186) (can_V cal_N_node (by decide +kernel) rfl (by decide +kernel) rfl wd_1019 wd_1020 wd_1021 wd_605 (by decide +kernel)) rfl rfl) (
  mA (i := 789) (ok_ceq (off := 512) (pc := 1189) (tgt := 1701) rfl rfl rfl (by decide +kernel) (by decide +kernel)) (
  mA (i := 790) (ok_ic (n := 0) (pc := 1192) (by decide +kernel) rfl rfl (by decide +kernel)) (
  mA (i := 791) (ok_zret (pc := 1193) rfl rfl (by decide +kernel)) (
  mA (i := 792) (ok_ald_n (f := 1) (pc := 1194) rfl rfl rfl (by decide +kernel)) (
  mA (i := 793) (ok_ald_n (f := 0) (pc := 1195) rfl rfl rfl (by decide +kernel)) (
  mA (i := 794) (ok_ild_n (f := 3) (pc := 1196) rfl rfl rfl (by decide +kernel)) (
  mA (i := 795) (ok_ic (n := 1) (pc := 1197) (by decide +kernel) rfl rfl (by decide +kernel)) (
  mA (i := 796) (ok_add (pc := 1198) rfl rfl (by decide +kernel)) (
  mA (i := 797) (ok_sald (pc := 1199) rfl rfl (by decide +kernel)) (
  mA (i := 798) (ok_callI (pc := 1200) (can_V cal_C_at (by decide +kernel) rfl (by decide +kernel) rfl wd_1022 wd_1023 wd_1024 wd_35 (by decide +kernel)) rfl rfl) (
  mA (i := 799) (ok_ald_n (f := 2) (pc := 1203) rfl rfl rfl (by decide +kernel)) (
  mA (i := 800) (ok_ald_n (f := 0) (pc := 1204) rfl rfl rfl (by decide +kernel)) (
  mA (i := 801) (ok_ild_n (f := 3) (pc := 1205) rfl rfl rfl (by decide +kernel)) (
  mA (i := 802) (ok_ic (n := 1) (pc := 1206) (by decide +kernel) rfl rfl (by decide +kernel)) (
  mA (i := 803) (ok_add (pc := 1207) rfl rfl (by decide +kernel)) (
  mA (i := 804) (ok_sald (pc := 1208) rfl rfl (by decide +kernel)) (
  mA (i := 805) (ok_callI (pc := 1209) (can_V cal_N_at (by decide +kernel) rfl (by decide +kernel) rfl wd_1025 wd_1026 wd_1027 wd_605 (by decide +kernel)) rfl rfl) (
  mA (i := 806) (ok_ceq (off := 489) (pc := 1212) (tgt := 1701) rfl rfl rfl (by decide +kernel) (by decide +kernel)) (
  mA (i := 807) (ok_ic (n := 0) (pc := 1215) (by decide +kernel) rfl rfl (by decide +kernel)) (
  mA (i := 808) (ok_zret (pc := 1216) rfl rfl (by decide +kernel)) (
  mA (i := 809) (ok_ald_n (f := 1) (pc := 1217) rfl rfl rfl (by decide +kernel)) (
  mA (i := 810) (ok_ald_n (f := 0) (pc := 1218) rfl rfl rfl (by decide +kernel)) (
  mA (i := 811) (ok_ild_n (f := 3) (pc := 1219) rfl rfl rfl (by decide +kernel)) (
  mA (i := 812) (ok_ic (n := 1) (pc := 1220) (by decide +kernel) rfl rfl (by decide +kernel)) (
  mA (i := 813) (ok_add (pc := 1221) rfl rfl (by decide +kernel)) (
  mA (i := 814) (ok_sald (pc := 1222) rfl rfl (by decide +kernel)) (
  mA (i := 815) (ok_ald_n (f := 0) (pc := 1223) rfl rfl rfl (by decide +kernel)) (
  mA (i := 816) (ok_ild_n (f := 3) (pc := 1224) rfl rfl rfl (by decide +kernel)) (
  mA (i := 817) (ok_ic (n := 2) (pc := 1225) (by decide +kernel) rfl rfl (by decide +kernel)) (
  mA (i := 818) (ok_add (pc := 1226) rfl rfl (by decide +kernel)) (
  mA (i := 819) (ok_sald (pc := 1227) rfl rfl (by decide +kernel)) (
  mA (i := 820) (ok_callI (pc := 1228) (can_V cal_C_forward (by decide +kernel) rfl (by decide +kernel) rfl wd_1028 wd_1029 wd_1030 wd_35 (by decide +kernel)) rfl rfl) (
  mA (i := 821) (ok_ald_n (f := 2) (pc := 1231) rfl rfl rfl (by decide +kernel)) (
  mA (i := 822) (ok_ald_n (f := 0) (pc := 1232) rfl rfl rfl (by decide +kernel)) (
  mA (i := 823) (ok_ild_n (f := 3) (pc := 1233) rfl rfl rfl (by decide +kernel)) (
  mA (i := 824) (ok_ic (n := 1) (pc := 1234) (by decide +kernel) rfl rfl (by decide +kernel)) (
  mA (i := 825) (ok_add (pc := 1235) rfl rfl (by decide +kernel)) (
  mA (i := 826) (ok_sald (pc := 1236) rfl rfl (by decide +kernel)) (
  mA (i := 827) (ok_ald_n (f := 0) (pc := 1237) rfl rfl rfl (by decide +kernel)) (
  mA (i := 828) (ok_ild_n (f := 3) (pc := 1238) rfl rfl rfl (by decide +kernel)) (
  mA (i := 829) (ok_ic (n := 2) (pc := 1239) (by decide +kernel) rfl rfl (by decide +kernel)) (
  mA (i := 830) (ok_add (pc := 1240) rfl rfl (by decide +kernel)) (
  mA (i := 831) (ok_sald (pc := 1241) rfl rfl (by decide +kernel)) (
  mA (i := 832) (ok_callI (pc := 1242) (can_V cal_N_forward (by decide +kernel) rfl (by decide +kernel) rfl wd_1031 wd_1032 wd_1033 wd_605 (by decide +kernel)) rfl rfl) (
  mA (i := 833) (ok_ceq (off := 456) (pc := 1245) (tgt := 1701) rfl rfl rfl (by decide +kernel) (by decide +kernel)) (
  mA (i := 834) (ok_ic (n := 0) (pc := 1248) (by decide +kernel) rfl rfl (by decide +kernel)) (
  mA (i := 835) (ok_zret (pc := 1249) rfl rfl (by decide +kernel)) (
  mA (i := 836) (ok_ald_n (f := 1) (pc := 1250) rfl rfl rfl (by decide +kernel)) (
  mA (i := 837) (ok_ald_n (f := 0) (pc := 1251) rfl rfl rfl (by decide +kernel)) (
  mA (i := 838) (ok_ild_n (f := 3) (pc := 1252) rfl rfl rfl (by decide +kernel)) (
  mA (i := 839) (ok_ic (n := 1) (pc := 1253) (by decide +kernel) rfl rfl (by decide +kernel)) (
  ok_Lw_law_t840))))))))))))))))))))))))))))))))))))))))))))))))))))))))))))
set_option maxRecDepth 20000 in
theorem ok_Lw_law_t720 : mAll (mOk RL cL_law 4 true false (some .boolean) (mnat p_Lw_law)) 720 [o_ic (nI 1), o_add, o_ald4 31, o_callI 148 2 10, o_ald 2, o_ald 0, o_ild 3, o_ic (nI 1), o_add, o_ald4 31, o_callI 273 2 11, o_ceq 1185, o_ic (nI 0), o_zret, o_ald 1, o_callI 149 1 10, o_ald 2, o_callI 274 1 11, o_ceq 1185, o_ic (nI 0), o_zret, o_ald 1, o_ald 0, o_ild 3, o_ic (nI 1), o_add, o_ald4 31, o_callI 150 2 10, o_ald 2, o_ald 0, o_ild 3, o_ic (nI 1), o_add, o_ald4 31, o_callI 275 2 11, o_ceq 1185, o_ic (nI 0), o_zret, o_ald 1, o_callI 151 1 10, o_ald 2, o_callI 280 1 11, o_ceq 1185, o_ic (nI 0), o_zret, o_ald 1, o_ald 0, o_ild 3, o_ic (nI 1), o_add, o_ald4 31, o_ald 0, o_ild 3, o_ic (nI 2), o_add, o_ald4 31, o_callI 152 3 10, o_ald 2, o_ald 0, o_ild 3, o_ic (nI 1), o_add, o_ald4 31, o_ald 0, o_ild 3, o_ic (nI 2), o_add, o_ald4 31, o_callI 281 3 11, o_ceq 1185, o_ic (nI 0), o_zret, o_ald 1, o_ald 0, o_ild 3, o_ic (nI 1), o_add, o_ald4 31, o_callI 153 2 10, o_ald 2, o_ald 0, o_ild 3, o_ic (nI 1), o_add, o_ald4 31, o_callI 282 2 11, o_ceq 1185, o_ic (nI 0), o_zret, o_ald 1, o_ald 0, o_ild 3, o_ic (nI 1), o_add, o_ald4 31, o_ald 0, o_ild 3, o_ic (nI 2), o_add, o_ald4 31, o_callI 154 3 10, o_ald 2, o_ald 0, o_ild 3, o_ic (nI 1), o_add, o_ald4 31, o_ald 0, o_ild 3, o_ic (nI 2), o_add, o_ald4 31, o_callI 289 3 11, o_ceq 1185, o_ic (nI 0), o_zret, o_ald 1, o_ald 0, o_ild 3, o_ic (nI 1), o_add, o_ald4 31, o_ald 0, o_ild 3, o_ic (nI 2), o_add, o_ald4 31, o_callI 155 3 10, o_ald 2, o_ald 0, o_ild 3, o_ic (nI 1), o_add, o_ald4 31, o_ald 0, o_ild 3, o_ic (nI 2), o_add, o_ald4 31, o_callI 290 3 11, o_ceq 1185, o_ic (nI 0), o_zret, o_ald 1, o_ald 0, o_ild 3, o_ic (nI 1), o_add, o_ald4 31, o_ald 0, o_ild 3, o_ic (nI 2), o_add, o_ald4 31, o_callI 156 3 10, o_ald 2, o_ald 0, o_ild 3, o_ic (nI 1), o_add, o_ald4 31, o_ald 0, o_ild 3, o_ic (nI 2), o_add, o_ald4 31, o_callI 285 3 11, o_ceq 1185, o_ic (nI 0), o_zret, o_ald 1, o_ald 0, o_ild 3, o_ic (nI 1), o_add, o_ald4 31, o_ald 0, o_ild 3, o_ic (nI 2), o_add, o_ald4 31, o_callI 157 3 10, o_ald 2, o_ald 0, o_ild 3, o_ic (nI 1), o_add, o_ald4 31, o_ald 0, o_ild 3, o_ic (nI 2), o_add, o_ald4 31, o_callI 287 3 11, o_ceq 1185, o_ic (nI 0), o_zret, o_ald 1, o_ald 0, o_ild 3, o_ic (nI 1), o_add, o_ald4 31, o_ald 0, o_ild 3, o_ic (nI 2), o_add, o_ald4 31, o_callI 158 3 10, o_ald 2, o_ald 0, o_ild 3, o_ic (nI 1), o_add, o_ald4 31, o_ald 0, o_ild 3, o_ic (nI 2), o_add, o_ald4 31, o_callI 286 3 11, o_ceq 1185, o_ic (nI 0), o_zret, o_ald 1, o_ald 0, o_ild 3, o_ic (nI 1), o_add, o_ald4 31, o_ald 0, o_ild 3, o_ic (nI 2), o_add, o_ald4 31, o_callI 159 3 10, o_ald 2, o_ald 0, o_ild 3, o_ic (nI 1), o_add, o_ald4 31, o_ald 0, o_ild 3, o_ic (nI 2), o_add, o_ald4 31, o_callI 293 3 11, o_ceq 1185, o_ic (nI 0), o_zret, o_ald 1, o_ald 0, o_ild 3, o_ic (nI 1), o_add, o_ald4 31, o_callI 160 2 10, o_ald 2, o_ald 0, o_ild 3, o_ic (nI 1), o_add, o_ald4 31, o_callI 295 2 11, o_ceq 1185, o_ic (nI 0), o_zret, o_ald 1, o_ald 0, o_ild 3, o_ic (nI 1), o_add, o_ald4 31, o_ald 0, o_ild 3, o_ic (nI 2), o_add, o_ald4 31, o_callI 161 3 10, o_ald 2, o_ald 0, o_ild 3, o_ic (nI 1), o_add, o_ald4 31, o_ald 0, o_ild 3, o_ic (nI 2), o_add, o_ald4 31, o_callI 297 3 11, o_ceq 1185, o_ic (nI 0), o_zret, o_ald 1, o_ald 0, o_ild 3, o_ic (nI 1), o_add, o_ald4 31, o_callI 162 2 10, o_ald 2, o_ald 0, o_ild 3, o_ic (nI 1), o_add, o_ald4 31, o_callI 301 2 11, o_ceq 1185, o_ic (nI 0), o_zret, o_ald 1, o_ald 0, o_ild 3, o_ic (nI 1), o_add, o_ald4 31, o_callI 163 2 10, o_ald 2, o_ald 0, o_ild 3, o_ic (nI 1), o_add, o_ald4 31, o_callI 302 2 11, o_ceq 1185, o_ic (nI 0), o_zret, o_ald 1, o_ald 0, o_ild 3, o_ic (nI 1), o_add, o_ald4 31, o_callI 164 2 10, o_ald 2, o_ald 0, o_ild 3, o_ic (nI 1), o_add, o_ald4 31, o_callI 303 2 11, o_ceq 1185, o_ic (nI 0), o_zret, o_ald 1, o_ald 0, o_ild 3, o_ic (nI 1), o_add, o_ald4 31, o_ald 0, o_ild 3, o_ic (nI 2), o_add, o_ald4 31, o_callI 165 3 10, o_ald 2, o_ald 0, o_ild 3, o_ic (nI 1), o_add, o_ald4 31, o_ald 0, o_ild 3, o_ic (nI 2), o_add, o_ald4 31, o_callI 305 3 11, o_ceq 1185, o_ic (nI 0), o_zret, o_ald 1, o_ald 0, o_ild 3, o_ic (nI 1), o_add, o_ald4 31, o_callI 166 2 10, o_ald 2, o_ald 0, o_ild 3, o_ic (nI 1), o_add, o_ald4 31, o_callI 306 2 11, o_ceq 1185, o_ic (nI 0), o_zret, o_ald 1, o_callI 167 1 10, o_ald 2, o_callI 307 1 11, o_ceq 1185, o_ic (nI 0), o_zret, o_ald 1, o_ald 0, o_ild 3, o_ic (nI 1), o_add, o_ald4 31, o_callI 168 2 10, o_ald 2, o_ald 0, o_ild 3, o_ic (nI 1), o_add, o_ald4 31, o_callI 230 2 11, o_ceq 1185, o_ic (nI 0), o_zret, o_ald 1, o_ald 0, o_ild 3, o_ic (nI 1), o_add, o_ald4 31, o_callI 169 2 10, o_ald 2, o_ald 0, o_ild 3, o_ic (nI 1), o_add, o_ald4 31, o_callI 231 2 11, o_ceq 1185, o_ic (nI 0), o_zret, o_ald 1, o_ald 0, o_ild 3, o_ic (nI 1), o_add, o_ald4 31, o_callI 170 2 10, o_ald 2, o_ald 0, o_ild 3, o_ic (nI 1), o_add, o_ald4 31, o_callI 232 2 11, o_ceq 1185, o_ic (nI 0), o_zret, o_ald 1, o_ald 0, o_ild 3, o_ic (nI 1), o_add, o_ald4 31, o_callI 171 2 10, o_ald 2, o_ald 0, o_ild 3, o_ic (nI 1), o_add, o_ald4 31, o_callI 308 2 11, o_ceq 1185, o_ic (nI 0), o_zret, o_inc 3 (nI 6), o_goto 10, o_ic (nI 1), o_zret] := mA (i := 720) (ok_ic (n := 1) (pc := 1092) (by decide +kernel) rfl rfl (by decide +kernel)) (
  mA (i := 721) (ok_add (pc := 1093) rfl rfl (by decide +kernel)) (
  mA (i := 722) (ok_sald (pc := 1094) rfl rfl (by decide +kernel)) (
  mA (i := 723) (ok_callI (pc := 1095) (can_V cal_C_lay (by decide +kernel) rfl (by decide +kernel) rfl wd_992 wd_993 wd_994 wd_35 (by decide +kernel)) rfl rfl) (
  mA (i := 724) (ok_ald_n (f := 2) (pc := 1098) rfl rfl rfl (by decide +kernel)) (
  mA (i := 725) (ok_ald_n (f := 0) (pc := 1099) rfl rfl rfl (by decide +kernel)) (
  mA (i := 726) (ok_ild_n (f := 3) (pc := 1100) rfl rfl rfl (by decide +kernel)) (
  mA (i := 727) (ok_ic (n := 1) (pc := 1101) (by decide +kernel) rfl rfl (by decide +kernel)) (
  mA (i := 728) (ok_add (pc := 1102) rfl rfl (by decide +kernel)) (
  mA (i := 729) (ok_sald (pc := 1103) rfl rfl (by decide +kernel)) (
  mA (i := 730) (ok_callI (pc := 1104) (can_V cal_N_lay (by decide +kernel) rfl (by decide +kernel) rfl wd_995 wd_996 wd_997 wd_605 (by decide +kernel)) rfl rfl) (
  mA (i := 731) (ok_ceq (off := 594) (pc := 1107) (tgt := 1701) rfl rfl rfl (by decide +kernel) (by decide +kernel)) (
  mA (i := 732) (ok_ic (n := 0) (pc := 1110) (by decide +kernel) rfl rfl (by decide +kernel)) (
  mA (i := 733) (ok_zret (pc := 1111) rfl rfl (by decide +kernel)) (
  mA (i := 734) (ok_ald_n (f := 1) (pc := 1112) rfl rfl rfl (by decide +kernel)) (
  mA (i := 735) (ok_callI (pc := 1113) (can_V cal_C_unlay (by decide +kernel) rfl (by decide +kernel) rfl wd_998 wd_999 wd_1000 wd_35 (by decide +kernel)) rfl rfl) (
  mA (i := 736) (ok_ald_n (f := 2) (pc := 1116) rfl rfl rfl (by decide +kernel)) (
  mA (i := 737) (ok_callI (pc := 1117) (can_V cal_N_unlay (by decide +kernel) rfl (by decide +kernel) rfl wd_1001 wd_1002 wd_1003 wd_605 (by decide +kernel)) rfl rfl) (
  mA (i := 738) (ok_ceq (off := 581) (pc := 1120) (tgt := 1701) rfl rfl rfl (by decide +kernel) (by decide +kernel)) (
  mA (i := 739) (ok_ic (n := 0) (pc := 1123) (by decide +kernel) rfl rfl (by decide +kernel)) (
  mA (i := 740) (ok_zret (pc := 1124) rfl rfl (by decide +kernel)) (
  mA (i := 741) (ok_ald_n (f := 1) (pc := 1125) rfl rfl rfl (by decide +kernel)) (
  mA (i := 742) (ok_ald_n (f := 0) (pc := 1126) rfl rfl rfl (by decide +kernel)) (
  mA (i := 743) (ok_ild_n (f := 3) (pc := 1127) rfl rfl rfl (by decide +kernel)) (
  mA (i := 744) (ok_ic (n := 1) (pc := 1128) (by decide +kernel) rfl rfl (by decide +kernel)) (
  mA (i := 745) (ok_add (pc := 1129) rfl rfl (by decide +kernel)) (
  mA (i := 746) (ok_sald (pc := 1130) rfl rfl (by decide +kernel)) (
  mA (i := 747) (ok_callI (pc := 1131) (can_V cal_C_order (by decide +kernel) rfl (by decide +kernel) rfl wd_1004 wd_1005 wd_1006 wd_35 (by decide +kernel)) rfl rfl) (
  mA (i := 748) (ok_ald_n (f := 2) (pc := 1134) rfl rfl rfl (by decide +kernel)) (
  mA (i := 749) (ok_ald_n (f := 0) (pc := 1135) rfl rfl rfl (by decide +kernel)) (
  mA (i := 750) (ok_ild_n (f := 3) (pc := 1136) rfl rfl rfl (by decide +kernel)) (
  mA (i := 751) (ok_ic (n := 1) (pc := 1137) (by decide +kernel) rfl rfl (by decide +kernel)) (
  mA (i := 752) (ok_add (pc := 1138) rfl rfl (by decide +kernel)) (
  mA (i := 753) (ok_sald (pc := 1139) rfl rfl (by decide +kernel)) (
  mA (i := 754) (ok_callI (pc := 1140) (can_V cal_N_order (by decide +kernel) rfl (by decide +kernel) rfl wd_1007 wd_1008 wd_1009 wd_605 (by decide +kernel)) rfl rfl) (
  mA (i := 755) (ok_ceq (off := 558) (pc := 1143) (tgt := 1701) rfl rfl rfl (by decide +kernel) (by decide +kernel)) (
  mA (i := 756) (ok_ic (n := 0) (pc := 1146) (by decide +kernel) rfl rfl (by decide +kernel)) (
  mA (i := 757) (ok_zret (pc := 1147) rfl rfl (by decide +kernel)) (
  mA (i := 758) (ok_ald_n (f := 1) (pc := 1148) rfl rfl rfl (by decide +kernel)) (
  mA (i := 759) (ok_callI (pc := 1149) (can_V cal_C_nodes (by decide +kernel) rfl (by decide +kernel) rfl wd_1010 wd_1011 wd_1012 wd_35 (by decide +kernel)) rfl rfl) (
  mA (i := 760) (ok_ald_n (f := 2) (pc := 1152) rfl rfl rfl (by decide +kernel)) (
  mA (i := 761) (ok_callI (pc := 1153) (can_V cal_N_nodes (by decide +kernel) rfl (by decide +kernel) rfl wd_1013 wd_1014 wd_1015 wd_605 (by decide +kernel)) rfl rfl) (
  mA (i := 762) (ok_ceq (off := 545) (pc := 1156) (tgt := 1701) rfl rfl rfl (by decide +kernel) (by decide +kernel)) (
  mA (i := 763) (ok_ic (n := 0) (pc := 1159) (by decide +kernel) rfl rfl (by decide +kernel)) (
  mA (i := 764) (ok_zret (pc := 1160) rfl rfl (by decide +kernel)) (
  mA (i := 765) (ok_ald_n (f := 1) (pc := 1161) rfl rfl rfl (by decide +kernel)) (
  mA (i := 766) (ok_ald_n (f := 0) (pc := 1162) rfl rfl rfl (by decide +kernel)) (
  mA (i := 767) (ok_ild_n (f := 3) (pc := 1163) rfl rfl rfl (by decide +kernel)) (
  mA (i := 768) (ok_ic (n := 1) (pc := 1164) (by decide +kernel) rfl rfl (by decide +kernel)) (
  mA (i := 769) (ok_add (pc := 1165) rfl rfl (by decide +kernel)) (
  mA (i := 770) (ok_sald (pc := 1166) rfl rfl (by decide +kernel)) (
  mA (i := 771) (ok_ald_n (f := 0) (pc := 1167) rfl rfl rfl (by decide +kernel)) (
  mA (i := 772) (ok_ild_n (f := 3) (pc := 1168) rfl rfl rfl (by decide +kernel)) (
  mA (i := 773) (ok_ic (n := 2) (pc := 1169) (by decide +kernel) rfl rfl (by decide +kernel)) (
  mA (i := 774) (ok_add (pc := 1170) rfl rfl (by decide +kernel)) (
  mA (i := 775) (ok_sald (pc := 1171) rfl rfl (by decide +kernel)) (
  mA (i := 776) (ok_callI (pc := 1172) (can_V cal_C_node (by decide +kernel) rfl (by decide +kernel) rfl wd_1016 wd_1017 wd_1018 wd_35 (by decide +kernel)) rfl rfl) (
  mA (i := 777) (ok_ald_n (f := 2) (pc := 1175) rfl rfl rfl (by decide +kernel)) (
  mA (i := 778) (ok_ald_n (f := 0) (pc := 1176) rfl rfl rfl (by decide +kernel)) (
  mA (i := 779) (ok_ild_n (f := 3) (pc := 1177) rfl rfl rfl (by decide +kernel)) (
  ok_Lw_law_t780))))))))))))))))))))))))))))))))))))))))))))))))))))))))))))
set_option maxRecDepth 20000 in
theorem ok_Lw_law_t660 : mAll (mOk RL cL_law 4 true false (some .boolean) (mnat p_Lw_law)) 660 [o_ceq 1185, o_ic (nI 0), o_zret, o_ald 1, o_ald 0, o_ild 3, o_ic (nI 1), o_add, o_ald4 31, o_ald 0, o_ild 3, o_ic (nI 2), o_add, o_ald4 31, o_callI 146 3 10, o_ald 2, o_ald 0, o_ild 3, o_ic (nI 1), o_add, o_ald4 31, o_ald 0, o_ild 3, o_ic (nI 2), o_add, o_ald4 31, o_callI 269 3 11, o_ceq 1185, o_ic (nI 0), o_zret, o_ald 1, o_ald 0, o_ild 3, o_ic (nI 1), o_add, o_ald4 31, o_ald 0, o_ild 3, o_ic (nI 2), o_add, o_ald4 31, o_callI 147 3 10, o_ald 2, o_ald 0, o_ild 3, o_ic (nI 1), o_add, o_ald4 31, o_ald 0, o_ild 3, o_ic (nI 2), o_add, o_ald4 31, o_callI 272 3 11, o_ceq 1185, o_ic (nI 0), o_zret, o_ald 1, o_ald 0, o_ild 3, o_ic (nI 1), o_add, o_ald4 31, o_callI 148 2 10, o_ald 2, o_ald 0, o_ild 3, o_ic (nI 1), o_add, o_ald4 31, o_callI 273 2 11, o_ceq 1185, o_ic (nI 0), o_zret, o_ald 1, o_callI 149 1 10, o_ald 2, o_callI 274 1 11, o_ceq 1185, o_ic (nI 0), o_zret, o_ald 1, o_ald 0, o_ild 3, o_ic (nI 1), o_add, o_ald4 31, o_callI 150 2 10, o_ald 2, o_ald 0, o_ild 3, o_ic (nI 1), o_add, o_ald4 31, o_callI 275 2 11, o_ceq 1185, o_ic (nI 0), o_zret, o_ald 1, o_callI 151 1 10, o_ald 2, o_callI 280 1 11, o_ceq 1185, o_ic (nI 0), o_zret, o_ald 1, o_ald 0, o_ild 3, o_ic (nI 1), o_add, o_ald4 31, o_ald 0, o_ild 3, o_ic (nI 2), o_add, o_ald4 31, o_callI 152 3 10, o_ald 2, o_ald 0, o_ild 3, o_ic (nI 1), o_add, o_ald4 31, o_ald 0, o_ild 3, o_ic (nI 2), o_add, o_ald4 31, o_callI 281 3 11, o_ceq 1185, o_ic (nI 0), o_zret, o_ald 1, o_ald 0, o_ild 3, o_ic (nI 1), o_add, o_ald4 31, o_callI 153 2 10, o_ald 2, o_ald 0, o_ild 3, o_ic (nI 1), o_add, o_ald4 31, o_callI 282 2 11, o_ceq 1185, o_ic (nI 0), o_zret, o_ald 1, o_ald 0, o_ild 3, o_ic (nI 1), o_add, o_ald4 31, o_ald 0, o_ild 3, o_ic (nI 2), o_add, o_ald4 31, o_callI 154 3 10, o_ald 2, o_ald 0, o_ild 3, o_ic (nI 1), o_add, o_ald4 31, o_ald 0, o_ild 3, o_ic (nI 2), o_add, o_ald4 31, o_callI 289 3 11, o_ceq 1185, o_ic (nI 0), o_zret, o_ald 1, o_ald 0, o_ild 3, o_ic (nI 1), o_add, o_ald4 31, o_ald 0, o_ild 3, o_ic (nI 2), o_add, o_ald4 31, o_callI 155 3 10, o_ald 2, o_ald 0, o_ild 3, o_ic (nI 1), o_add, o_ald4 31, o_ald 0, o_ild 3, o_ic (nI 2), o_add, o_ald4 31, o_callI 290 3 11, o_ceq 1185, o_ic (nI 0), o_zret, o_ald 1, o_ald 0, o_ild 3, o_ic (nI 1), o_add, o_ald4 31, o_ald 0, o_ild 3, o_ic (nI 2), o_add, o_ald4 31, o_callI 156 3 10, o_ald 2, o_ald 0, o_ild 3, o_ic (nI 1), o_add, o_ald4 31, o_ald 0, o_ild 3, o_ic (nI 2), o_add, o_ald4 31, o_callI 285 3 11, o_ceq 1185, o_ic (nI 0), o_zret, o_ald 1, o_ald 0, o_ild 3, o_ic (nI 1), o_add, o_ald4 31, o_ald 0, o_ild 3, o_ic (nI 2), o_add, o_ald4 31, o_callI 157 3 10, o_ald 2, o_ald 0, o_ild 3, o_ic (nI 1), o_add, o_ald4 31, o_ald 0, o_ild 3, o_ic (nI 2), o_add, o_ald4 31, o_callI 287 3 11, o_ceq 1185, o_ic (nI 0), o_zret, o_ald 1, o_ald 0, o_ild 3, o_ic (nI 1), o_add, o_ald4 31, o_ald 0, o_ild 3, o_ic (nI 2), o_add, o_ald4 31, o_callI 158 3 10, o_ald 2, o_ald 0, o_ild 3, o_ic (nI 1), o_add, o_ald4 31, o_ald 0, o_ild 3, o_ic (nI 2), o_add, o_ald4 31, o_callI 286 3 11, o_ceq 1185, o_ic (nI 0), o_zret, o_ald 1, o_ald 0, o_ild 3, o_ic (nI 1), o_add, o_ald4 31, o_ald 0, o_ild 3, o_ic (nI 2), o_add, o_ald4 31, o_callI 159 3 10, o_ald 2, o_ald 0, o_ild 3, o_ic (nI 1), o_add, o_ald4 31, o_ald 0, o_ild 3, o_ic (nI 2), o_add, o_ald4 31, o_callI 293 3 11, o_ceq 1185, o_ic (nI 0), o_zret, o_ald 1, o_ald 0, o_ild 3, o_ic (nI 1), o_add, o_ald4 31, o_callI 160 2 10, o_ald 2, o_ald 0, o_ild 3, o_ic (nI 1), o_add, o_ald4 31, o_callI 295 2 11, o_ceq 1185, o_ic (nI 0), o_zret, o_ald 1, o_ald 0, o_ild 3, o_ic (nI 1), o_add, o_ald4 31, o_ald 0, o_ild 3, o_ic (nI 2), o_add, o_ald4 31, o_callI 161 3 10, o_ald 2, o_ald 0, o_ild 3, o_ic (nI 1), o_add, o_ald4 31, o_ald 0, o_ild 3, o_ic (nI 2), o_add, o_ald4 31, o_callI 297 3 11, o_ceq 1185, o_ic (nI 0), o_zret, o_ald 1, o_ald 0, o_ild 3, o_ic (nI 1), o_add, o_ald4 31, o_callI 162 2 10, o_ald 2, o_ald 0, o_ild 3, o_ic (nI 1), o_add, o_ald4 31, o_callI 301 2 11, o_ceq 1185, o_ic (nI 0), o_zret, o_ald 1, o_ald 0, o_ild 3, o_ic (nI 1), o_add, o_ald4 31, o_callI 163 2 10, o_ald 2, o_ald 0, o_ild 3, o_ic (nI 1), o_add, o_ald4 31, o_callI 302 2 11, o_ceq 1185, o_ic (nI 0), o_zret, o_ald 1, o_ald 0, o_ild 3, o_ic (nI 1), o_add, o_ald4 31, o_callI 164 2 10, o_ald 2, o_ald 0, o_ild 3, o_ic (nI 1), o_add, o_ald4 31, o_callI 303 2 11, o_ceq 1185, o_ic (nI 0), o_zret, o_ald 1, o_ald 0, o_ild 3, o_ic (nI 1), o_add, o_ald4 31, o_ald 0, o_ild 3, o_ic (nI 2), o_add, o_ald4 31, o_callI 165 3 10, o_ald 2, o_ald 0, o_ild 3, o_ic (nI 1), o_add, o_ald4 31, o_ald 0, o_ild 3, o_ic (nI 2), o_add, o_ald4 31, o_callI 305 3 11, o_ceq 1185, o_ic (nI 0), o_zret, o_ald 1, o_ald 0, o_ild 3, o_ic (nI 1), o_add, o_ald4 31, o_callI 166 2 10, o_ald 2, o_ald 0, o_ild 3, o_ic (nI 1), o_add, o_ald4 31, o_callI 306 2 11, o_ceq 1185, o_ic (nI 0), o_zret, o_ald 1, o_callI 167 1 10, o_ald 2, o_callI 307 1 11, o_ceq 1185, o_ic (nI 0), o_zret, o_ald 1, o_ald 0, o_ild 3, o_ic (nI 1), o_add, o_ald4 31, o_callI 168 2 10, o_ald 2, o_ald 0, o_ild 3, o_ic (nI 1), o_add, o_ald4 31, o_callI 230 2 11, o_ceq 1185, o_ic (nI 0), o_zret, o_ald 1, o_ald 0, o_ild 3, o_ic (nI 1), o_add, o_ald4 31, o_callI 169 2 10, o_ald 2, o_ald 0, o_ild 3, o_ic (nI 1), o_add, o_ald4 31, o_callI 231 2 11, o_ceq 1185, o_ic (nI 0), o_zret, o_ald 1, o_ald 0, o_ild 3, o_ic (nI 1), o_add, o_ald4 31, o_callI 170 2 10, o_ald 2, o_ald 0, o_ild 3, o_ic (nI 1), o_add, o_ald4 31, o_callI 232 2 11, o_ceq 1185, o_ic (nI 0), o_zret, o_ald 1, o_ald 0, o_ild 3, o_ic (nI 1), o_add, o_ald4 31, o_callI 171 2 10, o_ald 2, o_ald 0, o_ild 3, o_ic (nI 1), o_add, o_ald4 31, o_callI 308 2 11, o_ceq 1185, o_ic (nI 0), o_zret, o_inc 3 (nI 6), o_goto 10, o_ic (nI 1), o_zret] := mA (i := 660) (ok_ceq (off := 683) (pc := 1018) (tgt := 1701) rfl rfl rfl (by decide +kernel) (by decide +kernel)) (
  mA (i := 661) (ok_ic (n := 0) (pc := 1021) (by decide +kernel) rfl rfl (by decide +kernel)) (
  mA (i := 662) (ok_zret (pc := 1022) rfl rfl (by decide +kernel)) (
  mA (i := 663) (ok_ald_n (f := 1) (pc := 1023) rfl rfl rfl (by decide +kernel)) (
  mA (i := 664) (ok_ald_n (f := 0) (pc := 1024) rfl rfl rfl (by decide +kernel)) (
  mA (i := 665) (ok_ild_n (f := 3) (pc := 1025) rfl rfl rfl (by decide +kernel)) (
  mA (i := 666) (ok_ic (n := 1) (pc := 1026) (by decide +kernel) rfl rfl (by decide +kernel)) (
  mA (i := 667) (ok_add (pc := 1027) rfl rfl (by decide +kernel)) (
  mA (i := 668) (ok_sald (pc := 1028) rfl rfl (by decide +kernel)) (
  mA (i := 669) (ok_ald_n (f := 0) (pc := 1029) rfl rfl rfl (by decide +kernel)) (
  mA (i := 670) (ok_ild_n (f := 3) (pc := 1030) rfl rfl rfl (by decide +kernel)) (
  mA (i := 671) (ok_ic (n := 2) (pc := 1031) (by decide +kernel) rfl rfl (by decide +kernel)) (
  mA (i := 672) (ok_add (pc := 1032) rfl rfl (by decide +kernel)) (
  mA (i := 673) (ok_sald (pc := 1033) rfl rfl (by decide +kernel)) (
  mA (i := 674) (ok_callI (pc := 1034) (can_V cal_C_choose (by decide +kernel) rfl (by decide +kernel) rfl wd_980 wd_981 wd_982 wd_35 (by decide +kernel)) rfl rfl) (
  mA (i := 675) (ok_ald_n (f := 2) (pc := 1037) rfl rfl rfl (by decide +kernel)) (
  mA (i := 676) (ok_ald_n (f := 0) (pc := 1038) rfl rfl rfl (by decide +kernel)) (
  mA (i := 677) (ok_ild_n (f := 3) (pc := 1039) rfl rfl rfl (by decide +kernel)) (
  mA (i := 678) (ok_ic (n := 1) (pc := 1040) (by decide +kernel) rfl rfl (by decide +kernel)) (
  mA (i := 679) (ok_add (pc := 1041) rfl rfl (by decide +kernel)) (
  mA (i := 680) (ok_sald (pc := 1042) rfl rfl (by decide +kernel)) (
  mA (i := 681) (ok_ald_n (f := 0) (pc := 1043) rfl rfl rfl (by decide +kernel)) (
  mA (i := 682) (ok_ild_n (f := 3) (pc := 1044) rfl rfl rfl (by decide +kernel)) (
  mA (i := 683) (ok_ic (n := 2) (pc := 1045) (by decide +kernel) rfl rfl (by decide +kernel)) (
  mA (i := 684) (ok_add (pc := 1046) rfl rfl (by decide +kernel)) (
  mA (i := 685) (ok_sald (pc := 1047) rfl rfl (by decide +kernel)) (
  mA (i := 686) (ok_callI (pc := 1048) (can_V cal_N_choose (by decide +kernel) rfl (by decide +kernel) rfl wd_983 wd_984 wd_985 wd_605 (by decide +kernel)) rfl rfl) (
  mA (i := 687) (ok_ceq (off := 650) (pc := 1051) (tgt := 1701) rfl rfl rfl (by decide +kernel) (by decide +kernel)) (
  mA (i := 688) (ok_ic (n := 0) (pc := 1054) (by decide +kernel) rfl rfl (by decide +kernel)) (
  mA (i := 689) (ok_zret (pc := 1055) rfl rfl (by decide +kernel)) (
  mA (i := 690) (ok_ald_n (f := 1) (pc := 1056) rfl rfl rfl (by decide +kernel)) (
  mA (i := 691) (ok_ald_n (f := 0) (pc := 1057) rfl rfl rfl (by decide +kernel)) (
  mA (i := 692) (ok_ild_n (f := 3) (pc := 1058) rfl rfl rfl (by decide +kernel)) (
  mA (i := 693) (ok_ic (n := 1) (pc := 1059) (by decide +kernel) rfl rfl (by decide +kernel)) (
  mA (i := 694) (ok_add (pc := 1060) rfl rfl (by decide +kernel)) (
  mA (i := 695) (ok_sald (pc := 1061) rfl rfl (by decide +kernel)) (
  mA (i := 696) (ok_ald_n (f := 0) (pc := 1062) rfl rfl rfl (by decide +kernel)) (
  mA (i := 697) (ok_ild_n (f := 3) (pc := 1063) rfl rfl rfl (by decide +kernel)) (
  mA (i := 698) (ok_ic (n := 2) (pc := 1064) (by decide +kernel) rfl rfl (by decide +kernel)) (
  mA (i := 699) (ok_add (pc := 1065) rfl rfl (by decide +kernel)) (
  mA (i := 700) (ok_sald (pc := 1066) rfl rfl (by decide +kernel)) (
  mA (i := 701) (ok_callI (pc := 1067) (can_V cal_C_greedy (by decide +kernel) rfl (by decide +kernel) rfl wd_986 wd_987 wd_988 wd_35 (by decide +kernel)) rfl rfl) (
  mA (i := 702) (ok_ald_n (f := 2) (pc := 1070) rfl rfl rfl (by decide +kernel)) (
  mA (i := 703) (ok_ald_n (f := 0) (pc := 1071) rfl rfl rfl (by decide +kernel)) (
  mA (i := 704) (ok_ild_n (f := 3) (pc := 1072) rfl rfl rfl (by decide +kernel)) (
  mA (i := 705) (ok_ic (n := 1) (pc := 1073) (by decide +kernel) rfl rfl (by decide +kernel)) (
  mA (i := 706) (ok_add (pc := 1074) rfl rfl (by decide +kernel)) (
  mA (i := 707) (ok_sald (pc := 1075) rfl rfl (by decide +kernel)) (
  mA (i := 708) (ok_ald_n (f := 0) (pc := 1076) rfl rfl rfl (by decide +kernel)) (
  mA (i := 709) (ok_ild_n (f := 3) (pc := 1077) rfl rfl rfl (by decide +kernel)) (
  mA (i := 710) (ok_ic (n := 2) (pc := 1078) (by decide +kernel) rfl rfl (by decide +kernel)) (
  mA (i := 711) (ok_add (pc := 1079) rfl rfl (by decide +kernel)) (
  mA (i := 712) (ok_sald (pc := 1080) rfl rfl (by decide +kernel)) (
  mA (i := 713) (ok_callI (pc := 1081) (can_V cal_N_greedy (by decide +kernel) rfl (by decide +kernel) rfl wd_989 wd_990 wd_991 wd_605 (by decide +kernel)) rfl rfl) (
  mA (i := 714) (ok_ceq (off := 617) (pc := 1084) (tgt := 1701) rfl rfl rfl (by decide +kernel) (by decide +kernel)) (
  mA (i := 715) (ok_ic (n := 0) (pc := 1087) (by decide +kernel) rfl rfl (by decide +kernel)) (
  mA (i := 716) (ok_zret (pc := 1088) rfl rfl (by decide +kernel)) (
  mA (i := 717) (ok_ald_n (f := 1) (pc := 1089) rfl rfl rfl (by decide +kernel)) (
  mA (i := 718) (ok_ald_n (f := 0) (pc := 1090) rfl rfl rfl (by decide +kernel)) (
  mA (i := 719) (ok_ild_n (f := 3) (pc := 1091) rfl rfl rfl (by decide +kernel)) (
  ok_Lw_law_t720))))))))))))))))))))))))))))))))))))))))))))))))))))))))))))
set_option maxRecDepth 20000 in
theorem ok_Lw_law_t600 : mAll (mOk RL cL_law 4 true false (some .boolean) (mnat p_Lw_law)) 600 [o_ald 0, o_ild 3, o_ic (nI 1), o_add, o_ald4 31, o_ald 0, o_ild 3, o_ic (nI 2), o_add, o_ald4 31, o_ald 0, o_ild 3, o_ic (nI 3), o_add, o_ald4 31, o_callI 144 4 10, o_ald 2, o_ald 0, o_ild 3, o_ic (nI 1), o_add, o_ald4 31, o_ald 0, o_ild 3, o_ic (nI 2), o_add, o_ald4 31, o_ald 0, o_ild 3, o_ic (nI 3), o_add, o_ald4 31, o_callI 267 4 11, o_ceq 1185, o_ic (nI 0), o_zret, o_ald 1, o_ald 0, o_ild 3, o_ic (nI 1), o_add, o_ald4 31, o_ald 0, o_ild 3, o_ic (nI 2), o_add, o_ald4 31, o_callI 145 3 10, o_ald 2, o_ald 0, o_ild 3, o_ic (nI 1), o_add, o_ald4 31, o_ald 0, o_ild 3, o_ic (nI 2), o_add, o_ald4 31, o_callI 268 3 11, o_ceq 1185, o_ic (nI 0), o_zret, o_ald 1, o_ald 0, o_ild 3, o_ic (nI 1), o_add, o_ald4 31, o_ald 0, o_ild 3, o_ic (nI 2), o_add, o_ald4 31, o_callI 146 3 10, o_ald 2, o_ald 0, o_ild 3, o_ic (nI 1), o_add, o_ald4 31, o_ald 0, o_ild 3, o_ic (nI 2), o_add, o_ald4 31, o_callI 269 3 11, o_ceq 1185, o_ic (nI 0), o_zret, o_ald 1, o_ald 0, o_ild 3, o_ic (nI 1), o_add, o_ald4 31, o_ald 0, o_ild 3, o_ic (nI 2), o_add, o_ald4 31, o_callI 147 3 10, o_ald 2, o_ald 0, o_ild 3, o_ic (nI 1), o_add, o_ald4 31, o_ald 0, o_ild 3, o_ic (nI 2), o_add, o_ald4 31, o_callI 272 3 11, o_ceq 1185, o_ic (nI 0), o_zret, o_ald 1, o_ald 0, o_ild 3, o_ic (nI 1), o_add, o_ald4 31, o_callI 148 2 10, o_ald 2, o_ald 0, o_ild 3, o_ic (nI 1), o_add, o_ald4 31, o_callI 273 2 11, o_ceq 1185, o_ic (nI 0), o_zret, o_ald 1, o_callI 149 1 10, o_ald 2, o_callI 274 1 11, o_ceq 1185, o_ic (nI 0), o_zret, o_ald 1, o_ald 0, o_ild 3, o_ic (nI 1), o_add, o_ald4 31, o_callI 150 2 10, o_ald 2, o_ald 0, o_ild 3, o_ic (nI 1), o_add, o_ald4 31, o_callI 275 2 11, o_ceq 1185, o_ic (nI 0), o_zret, o_ald 1, o_callI 151 1 10, o_ald 2, o_callI 280 1 11, o_ceq 1185, o_ic (nI 0), o_zret, o_ald 1, o_ald 0, o_ild 3, o_ic (nI 1), o_add, o_ald4 31, o_ald 0, o_ild 3, o_ic (nI 2), o_add, o_ald4 31, o_callI 152 3 10, o_ald 2, o_ald 0, o_ild 3, o_ic (nI 1), o_add, o_ald4 31, o_ald 0, o_ild 3, o_ic (nI 2), o_add, o_ald4 31, o_callI 281 3 11, o_ceq 1185, o_ic (nI 0), o_zret, o_ald 1, o_ald 0, o_ild 3, o_ic (nI 1), o_add, o_ald4 31, o_callI 153 2 10, o_ald 2, o_ald 0, o_ild 3, o_ic (nI 1), o_add, o_ald4 31, o_callI 282 2 11, o_ceq 1185, o_ic (nI 0), o_zret, o_ald 1, o_ald 0, o_ild 3, o_ic (nI 1), o_add, o_ald4 31, o_ald 0, o_ild 3, o_ic (nI 2), o_add, o_ald4 31, o_callI 154 3 10, o_ald 2, o_ald 0, o_ild 3, o_ic (nI 1), o_add, o_ald4 31, o_ald 0, o_ild 3, o_ic (nI 2), o_add, o_ald4 31, o_callI 289 3 11, o_ceq 1185, o_ic (nI 0), o_zret, o_ald 1, o_ald 0, o_ild 3, o_ic (nI 1), o_add, o_ald4 31, o_ald 0, o_ild 3, o_ic (nI 2), o_add, o_ald4 31, o_callI 155 3 10, o_ald 2, o_ald 0, o_ild 3, o_ic (nI 1), o_add, o_ald4 31, o_ald 0, o_ild 3, o_ic (nI 2), o_add, o_ald4 31, o_callI 290 3 11, o_ceq 1185, o_ic (nI 0), o_zret, o_ald 1, o_ald 0, o_ild 3, o_ic (nI 1), o_add, o_ald4 31, o_ald 0, o_ild 3, o_ic (nI 2), o_add, o_ald4 31, o_callI 156 3 10, o_ald 2, o_ald 0, o_ild 3, o_ic (nI 1), o_add, o_ald4 31, o_ald 0, o_ild 3, o_ic (nI 2), o_add, o_ald4 31, o_callI 285 3 11, o_ceq 1185, o_ic (nI 0), o_zret, o_ald 1, o_ald 0, o_ild 3, o_ic (nI 1), o_add, o_ald4 31, o_ald 0, o_ild 3, o_ic (nI 2), o_add, o_ald4 31, o_callI 157 3 10, o_ald 2, o_ald 0, o_ild 3, o_ic (nI 1), o_add, o_ald4 31, o_ald 0, o_ild 3, o_ic (nI 2), o_add, o_ald4 31, o_callI 287 3 11, o_ceq 1185, o_ic (nI 0), o_zret, o_ald 1, o_ald 0, o_ild 3, o_ic (nI 1), o_add, o_ald4 31, o_ald 0, o_ild 3, o_ic (nI 2), o_add, o_ald4 31, o_callI 158 3 10, o_ald 2, o_ald 0, o_ild 3, o_ic (nI 1), o_add, o_ald4 31, o_ald 0, o_ild 3, o_ic (nI 2), o_add, o_ald4 31, o_callI 286 3 11, o_ceq 1185, o_ic (nI 0), o_zret, o_ald 1, o_ald 0, o_ild 3, o_ic (nI 1), o_add, o_ald4 31, o_ald 0, o_ild 3, o_ic (nI 2), o_add, o_ald4 31, o_callI 159 3 10, o_ald 2, o_ald 0, o_ild 3, o_ic (nI 1), o_add, o_ald4 31, o_ald 0, o_ild 3, o_ic (nI 2), o_add, o_ald4 31, o_callI 293 3 11, o_ceq 1185, o_ic (nI 0), o_zret, o_ald 1, o_ald 0, o_ild 3, o_ic (nI 1), o_add, o_ald4 31, o_callI 160 2 10, o_ald 2, o_ald 0, o_ild 3, o_ic (nI 1), o_add, o_ald4 31, o_callI 295 2 11, o_ceq 1185, o_ic (nI 0), o_zret, o_ald 1, o_ald 0, o_ild 3, o_ic (nI 1), o_add, o_ald4 31, o_ald 0, o_ild 3, o_ic (nI 2), o_add, o_ald4 31, o_callI 161 3 10, o_ald 2, o_ald 0, o_ild 3, o_ic (nI 1), o_add, o_ald4 31, o_ald 0, o_ild 3, o_ic (nI 2), o_add, o_ald4 31, o_callI 297 3 11, o_ceq 1185, o_ic (nI 0), o_zret, o_ald 1, o_ald 0, o_ild 3, o_ic (nI 1), o_add, o_ald4 31, o_callI 162 2 10, o_ald 2, o_ald 0, o_ild 3, o_ic (nI 1), o_add, o_ald4 31, o_callI 301 2 11, o_ceq 1185, o_ic (nI 0), o_zret, o_ald 1, o_ald 0, o_ild 3, o_ic (nI 1), o_add, o_ald4 31, o_callI 163 2 10, o_ald 2, o_ald 0, o_ild 3, o_ic (nI 1), o_add, o_ald4 31, o_callI 302 2 11, o_ceq 1185, o_ic (nI 0), o_zret, o_ald 1, o_ald 0, o_ild 3, o_ic (nI 1), o_add, o_ald4 31, o_callI 164 2 10, o_ald 2, o_ald 0, o_ild 3, o_ic (nI 1), o_add, o_ald4 31, o_callI 303 2 11, o_ceq 1185, o_ic (nI 0), o_zret, o_ald 1, o_ald 0, o_ild 3, o_ic (nI 1), o_add, o_ald4 31, o_ald 0, o_ild 3, o_ic (nI 2), o_add, o_ald4 31, o_callI 165 3 10, o_ald 2, o_ald 0, o_ild 3, o_ic (nI 1), o_add, o_ald4 31, o_ald 0, o_ild 3, o_ic (nI 2), o_add, o_ald4 31, o_callI 305 3 11, o_ceq 1185, o_ic (nI 0), o_zret, o_ald 1, o_ald 0, o_ild 3, o_ic (nI 1), o_add, o_ald4 31, o_callI 166 2 10, o_ald 2, o_ald 0, o_ild 3, o_ic (nI 1), o_add, o_ald4 31, o_callI 306 2 11, o_ceq 1185, o_ic (nI 0), o_zret, o_ald 1, o_callI 167 1 10, o_ald 2, o_callI 307 1 11, o_ceq 1185, o_ic (nI 0), o_zret, o_ald 1, o_ald 0, o_ild 3, o_ic (nI 1), o_add, o_ald4 31, o_callI 168 2 10, o_ald 2, o_ald 0, o_ild 3, o_ic (nI 1), o_add, o_ald4 31, o_callI 230 2 11, o_ceq 1185, o_ic (nI 0), o_zret, o_ald 1, o_ald 0, o_ild 3, o_ic (nI 1), o_add, o_ald4 31, o_callI 169 2 10, o_ald 2, o_ald 0, o_ild 3, o_ic (nI 1), o_add, o_ald4 31, o_callI 231 2 11, o_ceq 1185, o_ic (nI 0), o_zret, o_ald 1, o_ald 0, o_ild 3, o_ic (nI 1), o_add, o_ald4 31, o_callI 170 2 10, o_ald 2, o_ald 0, o_ild 3, o_ic (nI 1), o_add, o_ald4 31, o_callI 232 2 11, o_ceq 1185, o_ic (nI 0), o_zret, o_ald 1, o_ald 0, o_ild 3, o_ic (nI 1), o_add, o_ald4 31, o_callI 171 2 10, o_ald 2, o_ald 0, o_ild 3, o_ic (nI 1), o_add, o_ald4 31, o_callI 308 2 11, o_ceq 1185, o_ic (nI 0), o_zret, o_inc 3 (nI 6), o_goto 10, o_ic (nI 1), o_zret] := mA (i := 600) (ok_ald_n (f := 0) (pc := 948) rfl rfl rfl (by decide +kernel)) (
  mA (i := 601) (ok_ild_n (f := 3) (pc := 949) rfl rfl rfl (by decide +kernel)) (
  mA (i := 602) (ok_ic (n := 1) (pc := 950) (by decide +kernel) rfl rfl (by decide +kernel)) (
  mA (i := 603) (ok_add (pc := 951) rfl rfl (by decide +kernel)) (
  mA (i := 604) (ok_sald (pc := 952) rfl rfl (by decide +kernel)) (
  mA (i := 605) (ok_ald_n (f := 0) (pc := 953) rfl rfl rfl (by decide +kernel)) (
  mA (i := 606) (ok_ild_n (f := 3) (pc := 954) rfl rfl rfl (by decide +kernel)) (
  mA (i := 607) (ok_ic (n := 2) (pc := 955) (by decide +kernel) rfl rfl (by decide +kernel)) (
  mA (i := 608) (ok_add (pc := 956) rfl rfl (by decide +kernel)) (
  mA (i := 609) (ok_sald (pc := 957) rfl rfl (by decide +kernel)) (
  mA (i := 610) (ok_ald_n (f := 0) (pc := 958) rfl rfl rfl (by decide +kernel)) (
  mA (i := 611) (ok_ild_n (f := 3) (pc := 959) rfl rfl rfl (by decide +kernel)) (
  mA (i := 612) (ok_ic (n := 3) (pc := 960) (by decide +kernel) rfl rfl (by decide +kernel)) (
  mA (i := 613) (ok_add (pc := 961) rfl rfl (by decide +kernel)) (
  mA (i := 614) (ok_sald (pc := 962) rfl rfl (by decide +kernel)) (
  mA (i := 615) (ok_callI (pc := 963) (can_V cal_C_value (by decide +kernel) rfl (by decide +kernel) rfl wd_968 wd_969 wd_970 wd_35 (by decide +kernel)) rfl rfl) (
  mA (i := 616) (ok_ald_n (f := 2) (pc := 966) rfl rfl rfl (by decide +kernel)) (
  mA (i := 617) (ok_ald_n (f := 0) (pc := 967) rfl rfl rfl (by decide +kernel)) (
  mA (i := 618) (ok_ild_n (f := 3) (pc := 968) rfl rfl rfl (by decide +kernel)) (
  mA (i := 619) (ok_ic (n := 1) (pc := 969) (by decide +kernel) rfl rfl (by decide +kernel)) (
  mA (i := 620) (ok_add (pc := 970) rfl rfl (by decide +kernel)) (
  mA (i := 621) (ok_sald (pc := 971) rfl rfl (by decide +kernel)) (
  mA (i := 622) (ok_ald_n (f := 0) (pc := 972) rfl rfl rfl (by decide +kernel)) (
  mA (i := 623) (ok_ild_n (f := 3) (pc := 973) rfl rfl rfl (by decide +kernel)) (
  mA (i := 624) (ok_ic (n := 2) (pc := 974) (by decide +kernel) rfl rfl (by decide +kernel)) (
  mA (i := 625) (ok_add (pc := 975) rfl rfl (by decide +kernel)) (
  mA (i := 626) (ok_sald (pc := 976) rfl rfl (by decide +kernel)) (
  mA (i := 627) (ok_ald_n (f := 0) (pc := 977) rfl rfl rfl (by decide +kernel)) (
  mA (i := 628) (ok_ild_n (f := 3) (pc := 978) rfl rfl rfl (by decide +kernel)) (
  mA (i := 629) (ok_ic (n := 3) (pc := 979) (by decide +kernel) rfl rfl (by decide +kernel)) (
  mA (i := 630) (ok_add (pc := 980) rfl rfl (by decide +kernel)) (
  mA (i := 631) (ok_sald (pc := 981) rfl rfl (by decide +kernel)) (
  mA (i := 632) (ok_callI (pc := 982) (can_V cal_N_value (by decide +kernel) rfl (by decide +kernel) rfl wd_971 wd_972 wd_973 wd_605 (by decide +kernel)) rfl rfl) (
  mA (i := 633) (ok_ceq (off := 716) (pc := 985) (tgt := 1701) rfl rfl rfl (by decide +kernel) (by decide +kernel)) (
  mA (i := 634) (ok_ic (n := 0) (pc := 988) (by decide +kernel) rfl rfl (by decide +kernel)) (
  mA (i := 635) (ok_zret (pc := 989) rfl rfl (by decide +kernel)) (
  mA (i := 636) (ok_ald_n (f := 1) (pc := 990) rfl rfl rfl (by decide +kernel)) (
  mA (i := 637) (ok_ald_n (f := 0) (pc := 991) rfl rfl rfl (by decide +kernel)) (
  mA (i := 638) (ok_ild_n (f := 3) (pc := 992) rfl rfl rfl (by decide +kernel)) (
  mA (i := 639) (ok_ic (n := 1) (pc := 993) (by decide +kernel) rfl rfl (by decide +kernel)) (
  mA (i := 640) (ok_add (pc := 994) rfl rfl (by decide +kernel)) (
  mA (i := 641) (ok_sald (pc := 995) rfl rfl (by decide +kernel)) (
  mA (i := 642) (ok_ald_n (f := 0) (pc := 996) rfl rfl rfl (by decide +kernel)) (
  mA (i := 643) (ok_ild_n (f := 3) (pc := 997) rfl rfl rfl (by decide +kernel)) (
  mA (i := 644) (ok_ic (n := 2) (pc := 998) (by decide +kernel) rfl rfl (by decide +kernel)) (
  mA (i := 645) (ok_add (pc := 999) rfl rfl (by decide +kernel)) (
  mA (i := 646) (ok_sald (pc := 1000) rfl rfl (by decide +kernel)) (
  mA (i := 647) (ok_callI (pc := 1001) (can_V cal_C_power (by decide +kernel) rfl (by decide +kernel) rfl wd_974 wd_975 wd_976 wd_35 (by decide +kernel)) rfl rfl) (
  mA (i := 648) (ok_ald_n (f := 2) (pc := 1004) rfl rfl rfl (by decide +kernel)) (
  mA (i := 649) (ok_ald_n (f := 0) (pc := 1005) rfl rfl rfl (by decide +kernel)) (
  mA (i := 650) (ok_ild_n (f := 3) (pc := 1006) rfl rfl rfl (by decide +kernel)) (
  mA (i := 651) (ok_ic (n := 1) (pc := 1007) (by decide +kernel) rfl rfl (by decide +kernel)) (
  mA (i := 652) (ok_add (pc := 1008) rfl rfl (by decide +kernel)) (
  mA (i := 653) (ok_sald (pc := 1009) rfl rfl (by decide +kernel)) (
  mA (i := 654) (ok_ald_n (f := 0) (pc := 1010) rfl rfl rfl (by decide +kernel)) (
  mA (i := 655) (ok_ild_n (f := 3) (pc := 1011) rfl rfl rfl (by decide +kernel)) (
  mA (i := 656) (ok_ic (n := 2) (pc := 1012) (by decide +kernel) rfl rfl (by decide +kernel)) (
  mA (i := 657) (ok_add (pc := 1013) rfl rfl (by decide +kernel)) (
  mA (i := 658) (ok_sald (pc := 1014) rfl rfl (by decide +kernel)) (
  mA (i := 659) (ok_callI (pc := 1015) (can_V cal_N_power (by decide +kernel) rfl (by decide +kernel) rfl wd_977 wd_978 wd_979 wd_605 (by decide +kernel)) rfl rfl) (
  ok_Lw_law_t660))))))))))))))))))))))))))))))))))))))))))))))))))))))))))))
set_option maxRecDepth 20000 in
theorem ok_Lw_law_t540 : mAll (mOk RL cL_law 4 true false (some .boolean) (mnat p_Lw_law)) 540 [o_ald4 31, o_ald 0, o_ild 3, o_ic (nI 2), o_add, o_ald4 31, o_ald 0, o_ild 3, o_ic (nI 3), o_add, o_ald4 31, o_callI 142 4 10, o_ald 2, o_ald 0, o_ild 3, o_ic (nI 1), o_add, o_ald4 31, o_ald 0, o_ild 3, o_ic (nI 2), o_add, o_ald4 31, o_ald 0, o_ild 3, o_ic (nI 3), o_add, o_ald4 31, o_callI 259 4 11, o_ceq 1185, o_ic (nI 0), o_zret, o_ald 1, o_ald 0, o_ild 3, o_ic (nI 1), o_add, o_ald4 31, o_ald 0, o_ild 3, o_ic (nI 2), o_add, o_ald4 31, o_callI 143 3 10, o_ald 2, o_ald 0, o_ild 3, o_ic (nI 1), o_add, o_ald4 31, o_ald 0, o_ild 3, o_ic (nI 2), o_add, o_ald4 31, o_callI 254 3 11, o_ceq 1185, o_ic (nI 0), o_zret, o_ald 1, o_ald 0, o_ild 3, o_ic (nI 1), o_add, o_ald4 31, o_ald 0, o_ild 3, o_ic (nI 2), o_add, o_ald4 31, o_ald 0, o_ild 3, o_ic (nI 3), o_add, o_ald4 31, o_callI 144 4 10, o_ald 2, o_ald 0, o_ild 3, o_ic (nI 1), o_add, o_ald4 31, o_ald 0, o_ild 3, o_ic (nI 2), o_add, o_ald4 31, o_ald 0, o_ild 3, o_ic (nI 3), o_add, o_ald4 31, o_callI 267 4 11, o_ceq 1185, o_ic (nI 0), o_zret, o_ald 1, o_ald 0, o_ild 3, o_ic (nI 1), o_add, o_ald4 31, o_ald 0, o_ild 3, o_ic (nI 2), o_add, o_ald4 31, o_callI 145 3 10, o_ald 2, o_ald 0, o_ild 3, o_ic (nI 1), o_add, o_ald4 31, o_ald 0, o_ild 3, o_ic (nI 2), o_add, o_ald4 31, o_callI 268 3 11, o_ceq 1185, o_ic (nI 0), o_zret, o_ald 1, o_ald 0, o_ild 3, o_ic (nI 1), o_add, o_ald4 31, o_ald 0, o_ild 3, o_ic (nI 2), o_add, o_ald4 31, o_callI 146 3 10, o_ald 2, o_ald 0, o_ild 3, o_ic (nI 1), o_add, o_ald4 31, o_ald 0, o_ild 3, o_ic (nI 2), o_add, o_ald4 31, o_callI 269 3 11, o_ceq 1185, o_ic (nI 0), o_zret, o_ald 1, o_ald 0, o_ild 3, o_ic (nI 1), o_add, o_ald4 31, o_ald 0, o_ild 3, o_ic (nI 2), o_add, o_ald4 31, o_callI 147 3 10, o_ald 2, o_ald 0, o_ild 3, o_ic (nI 1), o_add, o_ald4 31, o_ald 0, o_ild 3, o_ic (nI 2), o_add, o_ald4 31, o_callI 272 3 11, o_ceq 1185, o_ic (nI 0), o_zret, o_ald 1, o_ald 0, o_ild 3, o_ic (nI 1), o_add, o_ald4 31, o_callI 148 2 10, o_ald 2, o_ald 0, o_ild 3, o_ic (nI 1), o_add, o_ald4 31, o_callI 273 2 11, o_ceq 1185, o_ic (nI 0), o_zret, o_ald 1, o_callI 149 1 10, o_ald 2, o_callI 274 1 11, o_ceq 1185, o_ic (nI 0), o_zret, o_ald 1, o_ald 0, o_ild 3, o_ic (nI 1), o_add, o_ald4 31, o_callI 150 2 10, o_ald 2, o_ald 0, o_ild 3, o_ic (nI 1), o_add, o_ald4 31, o_callI 275 2 11, o_ceq 1185, o_ic (nI 0), o_zret, o_ald 1, o_callI 151 1 10, o_ald 2, o_callI 280 1 11, o_ceq 1185, o_ic (nI 0), o_zret, o_ald 1, o_ald 0, o_ild 3, o_ic (nI 1), o_add, o_ald4 31, o_ald 0, o_ild 3, o_ic (nI 2), o_add, o_ald4 31, o_callI 152 3 10, o_ald 2, o_ald 0, o_ild 3, o_ic (nI 1), o_add, o_ald4 31, o_ald 0, o_ild 3, o_ic (nI 2), o_add, o_ald4 31, o_callI 281 3 11, o_ceq 1185, o_ic (nI 0), o_zret, o_ald 1, o_ald 0, o_ild 3, o_ic (nI 1), o_add, o_ald4 31, o_callI 153 2 10, o_ald 2, o_ald 0, o_ild 3, o_ic (nI 1), o_add, o_ald4 31, o_callI 282 2 11, o_ceq 1185, o_ic (nI 0), o_zret, o_ald 1, o_ald 0, o_ild 3, o_ic (nI 1), o_add, o_ald4 31, o_ald 0, o_ild 3, o_ic (nI 2), o_add, o_ald4 31, o_callI 154 3 10, o_ald 2, o_ald 0, o_ild 3, o_ic (nI 1), o_add, o_ald4 31, o_ald 0, o_ild 3, o_ic (nI 2), o_add, o_ald4 31, o_callI 289 3 11, o_ceq 1185, o_ic (nI 0), o_zret, o_ald 1, o_ald 0, o_ild 3, o_ic (nI 1), o_add, o_ald4 31, o_ald 0, o_ild 3, o_ic (nI 2), o_add, o_ald4 31, o_callI 155 3 10, o_ald 2, o_ald 0, o_ild 3, o_ic (nI 1), o_add, o_ald4 31, o_ald 0, o_ild 3, o_ic (nI 2), o_add, o_ald4 31, o_callI 290 3 11, o_ceq 1185, o_ic (nI 0), o_zret, o_ald 1, o_ald 0, o_ild 3, o_ic (nI 1), o_add, o_ald4 31, o_ald 0, o_ild 3, o_ic (nI 2), o_add, o_ald4 31, o_callI 156 3 10, o_ald 2, o_ald 0, o_ild 3, o_ic (nI 1), o_add, o_ald4 31, o_ald 0, o_ild 3, o_ic (nI 2), o_add, o_ald4 31, o_callI 285 3 11, o_ceq 1185, o_ic (nI 0), o_zret, o_ald 1, o_ald 0, o_ild 3, o_ic (nI 1), o_add, o_ald4 31, o_ald 0, o_ild 3, o_ic (nI 2), o_add, o_ald4 31, o_callI 157 3 10, o_ald 2, o_ald 0, o_ild 3, o_ic (nI 1), o_add, o_ald4 31, o_ald 0, o_ild 3, o_ic (nI 2), o_add, o_ald4 31, o_callI 287 3 11, o_ceq 1185, o_ic (nI 0), o_zret, o_ald 1, o_ald 0, o_ild 3, o_ic (nI 1), o_add, o_ald4 31, o_ald 0, o_ild 3, o_ic (nI 2), o_add, o_ald4 31, o_callI 158 3 10, o_ald 2, o_ald 0, o_ild 3, o_ic (nI 1), o_add, o_ald4 31, o_ald 0, o_ild 3, o_ic (nI 2), o_add, o_ald4 31, o_callI 286 3 11, o_ceq 1185, o_ic (nI 0), o_zret, o_ald 1, o_ald 0, o_ild 3, o_ic (nI 1), o_add, o_ald4 31, o_ald 0, o_ild 3, o_ic (nI 2), o_add, o_ald4 31, o_callI 159 3 10, o_ald 2, o_ald 0, o_ild 3, o_ic (nI 1), o_add, o_ald4 31, o_ald 0, o_ild 3, o_ic (nI 2), o_add, o_ald4 31, o_callI 293 3 11, o_ceq 1185, o_ic (nI 0), o_zret, o_ald 1, o_ald 0, o_ild 3, o_ic (nI 1), o_add, o_ald4 31, o_callI 160 2 10, o_ald 2, o_ald 0, o_ild 3, o_ic (nI 1), o_add, o_ald4 31, o_callI 295 2 11, o_ceq 1185, o_ic (nI 0), o_zret, o_ald 1, o_ald 0, o_ild 3, o_ic (nI 1), o_add, o_ald4 31, o_ald 0, o_ild 3, o_ic (nI 2), o_add, o_ald4 31, o_callI 161 3 10, o_ald 2, o_ald 0, o_ild 3, o_ic (nI 1), o_add, o_ald4 31, o_ald 0, o_ild 3, o_ic (nI 2), o_add, o_ald4 31, o_callI 297 3 11, o_ceq 1185, o_ic (nI 0), o_zret, o_ald 1, o_ald 0, o_ild 3, o_ic (nI 1), o_add, o_ald4 31, o_callI 162 2 10, o_ald 2, o_ald 0, o_ild 3, o_ic (nI 1), o_add, o_ald4 31, o_callI 301 2 11, o_ceq 1185, o_ic (nI 0), o_zret, o_ald 1, o_ald 0, o_ild 3, o_ic (nI 1), o_add, o_ald4 31, o_callI 163 2 10, o_ald 2, o_ald 0, o_ild 3, o_ic (nI 1), o_add, o_ald4 31, o_callI 302 2 11, o_ceq 1185, o_ic (nI 0), o_zret, o_ald 1, o_ald 0, o_ild 3, o_ic (nI 1), o_add, o_ald4 31, o_callI 164 2 10, o_ald 2, o_ald 0, o_ild 3, o_ic (nI 1), o_add, o_ald4 31, o_callI 303 2 11, o_ceq 1185, o_ic (nI 0), o_zret, o_ald 1, o_ald 0, o_ild 3, o_ic (nI 1), o_add, o_ald4 31, o_ald 0, o_ild 3, o_ic (nI 2), o_add, o_ald4 31, o_callI 165 3 10, o_ald 2, o_ald 0, o_ild 3, o_ic (nI 1), o_add, o_ald4 31, o_ald 0, o_ild 3, o_ic (nI 2), o_add, o_ald4 31, o_callI 305 3 11, o_ceq 1185, o_ic (nI 0), o_zret, o_ald 1, o_ald 0, o_ild 3, o_ic (nI 1), o_add, o_ald4 31, o_callI 166 2 10, o_ald 2, o_ald 0, o_ild 3, o_ic (nI 1), o_add, o_ald4 31, o_callI 306 2 11, o_ceq 1185, o_ic (nI 0), o_zret, o_ald 1, o_callI 167 1 10, o_ald 2, o_callI 307 1 11, o_ceq 1185, o_ic (nI 0), o_zret, o_ald 1, o_ald 0, o_ild 3, o_ic (nI 1), o_add, o_ald4 31, o_callI 168 2 10, o_ald 2, o_ald 0, o_ild 3, o_ic (nI 1), o_add, o_ald4 31, o_callI 230 2 11, o_ceq 1185, o_ic (nI 0), o_zret, o_ald 1, o_ald 0, o_ild 3, o_ic (nI 1), o_add, o_ald4 31, o_callI 169 2 10, o_ald 2, o_ald 0, o_ild 3, o_ic (nI 1), o_add, o_ald4 31, o_callI 231 2 11, o_ceq 1185, o_ic (nI 0), o_zret, o_ald 1, o_ald 0, o_ild 3, o_ic (nI 1), o_add, o_ald4 31, o_callI 170 2 10, o_ald 2, o_ald 0, o_ild 3, o_ic (nI 1), o_add, o_ald4 31, o_callI 232 2 11, o_ceq 1185, o_ic (nI 0), o_zret, o_ald 1, o_ald 0, o_ild 3, o_ic (nI 1), o_add, o_ald4 31, o_callI 171 2 10, o_ald 2, o_ald 0, o_ild 3, o_ic (nI 1), o_add, o_ald4 31, o_callI 308 2 11, o_ceq 1185, o_ic (nI 0), o_zret, o_inc 3 (nI 6), o_goto 10, o_ic (nI 1), o_zret] := mA (i := 540) (ok_sald (pc := 876) rfl rfl (by decide +kernel)) (
  mA (i := 541) (ok_ald_n (f := 0) (pc := 877) rfl rfl rfl (by decide +kernel)) (
  mA (i := 542) (ok_ild_n (f := 3) (pc := 878) rfl rfl rfl (by decide +kernel)) (
  mA (i := 543) (ok_ic (n := 2) (pc := 879) (by decide +kernel) rfl rfl (by decide +kernel)) (
  mA (i := 544) (ok_add (pc := 880) rfl rfl (by decide +kernel)) (
  mA (i := 545) (ok_sald (pc := 881) rfl rfl (by decide +kernel)) (
  mA (i := 546) (ok_ald_n (f := 0) (pc := 882) rfl rfl rfl (by decide +kernel)) (
  mA (i := 547) (ok_ild_n (f := 3) (pc := 883) rfl rfl rfl (by decide +kernel)) (
  mA (i := 548) (ok_ic (n := 3) (pc := 884) (by decide +kernel) rfl rfl (by decide +kernel)) (
  mA (i := 549) (ok_add (pc := 885) rfl rfl (by decide +kernel)) (
  mA (i := 550) (ok_sald (pc := 886) rfl rfl (by decide +kernel)) (
  mA (i := 551) (ok_callI (pc := 887) (can_V cal_C_factor (by decide +kernel) rfl (by decide +kernel) rfl wd_956 wd_957 wd_958 wd_35 (by decide +kernel)) rfl rfl) (
  mA (i := 552) (ok_ald_n (f := 2) (pc := 890) rfl rfl rfl (by decide +kernel)) (
  mA (i := 553) (ok_ald_n (f := 0) (pc := 891) rfl rfl rfl (by decide +kernel)) (
  mA (i := 554) (ok_ild_n (f := 3) (pc := 892) rfl rfl rfl (by decide +kernel)) (
  mA (i := 555) (ok_ic (n := 1) (pc := 893) (by decide +kernel) rfl rfl (by decide +kernel)) (
  mA (i := 556) (ok_add (pc := 894) rfl rfl (by decide +kernel)) (
  mA (i := 557) (ok_sald (pc := 895) rfl rfl (by decide +kernel)) (
  mA (i := 558) (ok_ald_n (f := 0) (pc := 896) rfl rfl rfl (by decide +kernel)) (
  mA (i := 559) (ok_ild_n (f := 3) (pc := 897) rfl rfl rfl (by decide +kernel)) (
  mA (i := 560) (ok_ic (n := 2) (pc := 898) (by decide +kernel) rfl rfl (by decide +kernel)) (
  mA (i := 561) (ok_add (pc := 899) rfl rfl (by decide +kernel)) (
  mA (i := 562) (ok_sald (pc := 900) rfl rfl (by decide +kernel)) (
  mA (i := 563) (ok_ald_n (f := 0) (pc := 901) rfl rfl rfl (by decide +kernel)) (
  mA (i := 564) (ok_ild_n (f := 3) (pc := 902) rfl rfl rfl (by decide +kernel)) (
  mA (i := 565) (ok_ic (n := 3) (pc := 903) (by decide +kernel) rfl rfl (by decide +kernel)) (
  mA (i := 566) (ok_add (pc := 904) rfl rfl (by decide +kernel)) (
  mA (i := 567) (ok_sald (pc := 905) rfl rfl (by decide +kernel)) (
  mA (i := 568) (ok_callI (pc := 906) (can_V cal_N_factor (by decide +kernel) rfl (by decide +kernel) rfl wd_959 wd_960 wd_961 wd_605 (by decide +kernel)) rfl rfl) (
  mA (i := 569) (ok_ceq (off := 792) (pc := 909) (tgt := 1701) rfl rfl rfl (by decide +kernel) (by decide +kernel)) (
  mA (i := 570) (ok_ic (n := 0) (pc := 912) (by decide +kernel) rfl rfl (by decide +kernel)) (
  mA (i := 571) (ok_zret (pc := 913) rfl rfl (by decide +kernel)) (
  mA (i := 572) (ok_ald_n (f := 1) (pc := 914) rfl rfl rfl (by decide +kernel)) (
  mA (i := 573) (ok_ald_n (f := 0) (pc := 915) rfl rfl rfl (by decide +kernel)) (
  mA (i := 574) (ok_ild_n (f := 3) (pc := 916) rfl rfl rfl (by decide +kernel)) (
  mA (i := 575) (ok_ic (n := 1) (pc := 917) (by decide +kernel) rfl rfl (by decide +kernel)) (
  mA (i := 576) (ok_add (pc := 918) rfl rfl (by decide +kernel)) (
  mA (i := 577) (ok_sald (pc := 919) rfl rfl (by decide +kernel)) (
  mA (i := 578) (ok_ald_n (f := 0) (pc := 920) rfl rfl rfl (by decide +kernel)) (
  mA (i := 579) (ok_ild_n (f := 3) (pc := 921) rfl rfl rfl (by decide +kernel)) (
  mA (i := 580) (ok_ic (n := 2) (pc := 922) (by decide +kernel) rfl rfl (by decide +kernel)) (
  mA (i := 581) (ok_add (pc := 923) rfl rfl (by decide +kernel)) (
  mA (i := 582) (ok_sald (pc := 924) rfl rfl (by decide +kernel)) (
  mA (i := 583) (ok_callI (pc := 925) (can_V cal_C_alike (by decide +kernel) rfl (by decide +kernel) rfl wd_962 wd_963 wd_964 wd_35 (by decide +kernel)) rfl rfl) (
  mA (i := 584) (ok_ald_n (f := 2) (pc := 928) rfl rfl rfl (by decide +kernel)) (
  mA (i := 585) (ok_ald_n (f := 0) (pc := 929) rfl rfl rfl (by decide +kernel)) (
  mA (i := 586) (ok_ild_n (f := 3) (pc := 930) rfl rfl rfl (by decide +kernel)) (
  mA (i := 587) (ok_ic (n := 1) (pc := 931) (by decide +kernel) rfl rfl (by decide +kernel)) (
  mA (i := 588) (ok_add (pc := 932) rfl rfl (by decide +kernel)) (
  mA (i := 589) (ok_sald (pc := 933) rfl rfl (by decide +kernel)) (
  mA (i := 590) (ok_ald_n (f := 0) (pc := 934) rfl rfl rfl (by decide +kernel)) (
  mA (i := 591) (ok_ild_n (f := 3) (pc := 935) rfl rfl rfl (by decide +kernel)) (
  mA (i := 592) (ok_ic (n := 2) (pc := 936) (by decide +kernel) rfl rfl (by decide +kernel)) (
  mA (i := 593) (ok_add (pc := 937) rfl rfl (by decide +kernel)) (
  mA (i := 594) (ok_sald (pc := 938) rfl rfl (by decide +kernel)) (
  mA (i := 595) (ok_callI (pc := 939) (can_V cal_N_alike (by decide +kernel) rfl (by decide +kernel) rfl wd_965 wd_966 wd_967 wd_605 (by decide +kernel)) rfl rfl) (
  mA (i := 596) (ok_ceq (off := 759) (pc := 942) (tgt := 1701) rfl rfl rfl (by decide +kernel) (by decide +kernel)) (
  mA (i := 597) (ok_ic (n := 0) (pc := 945) (by decide +kernel) rfl rfl (by decide +kernel)) (
  mA (i := 598) (ok_zret (pc := 946) rfl rfl (by decide +kernel)) (
  mA (i := 599) (ok_ald_n (f := 1) (pc := 947) rfl rfl rfl (by decide +kernel)) (
  ok_Lw_law_t600))))))))))))))))))))))))))))))))))))))))))))))))))))))))))))
set_option maxRecDepth 20000 in
theorem ok_Lw_law_t480 : mAll (mOk RL cL_law 4 true false (some .boolean) (mnat p_Lw_law)) 480 [o_ild 3, o_ic (nI 1), o_add, o_ald4 31, o_ald 0, o_ild 3, o_ic (nI 2), o_add, o_ald4 31, o_ald 0, o_ild 3, o_ic (nI 3), o_add, o_ald4 31, o_ald 0, o_ild 3, o_ic (nI 4), o_add, o_ald4 31, o_ald 0, o_ild 3, o_ic (nI 5), o_add, o_ald4 31, o_callI 253 6 11, o_ceq 1185, o_ic (nI 0), o_zret, o_ald 1, o_ald 0, o_ild 3, o_ic (nI 1), o_add, o_ald4 31, o_ald 0, o_ild 3, o_ic (nI 2), o_add, o_ald4 31, o_callI 141 3 10, o_ald 2, o_ald 0, o_ild 3, o_ic (nI 1), o_add, o_ald4 31, o_ald 0, o_ild 3, o_ic (nI 2), o_add, o_ald4 31, o_callI 255 3 11, o_ceq 1185, o_ic (nI 0), o_zret, o_ald 1, o_ald 0, o_ild 3, o_ic (nI 1), o_add, o_ald4 31, o_ald 0, o_ild 3, o_ic (nI 2), o_add, o_ald4 31, o_ald 0, o_ild 3, o_ic (nI 3), o_add, o_ald4 31, o_callI 142 4 10, o_ald 2, o_ald 0, o_ild 3, o_ic (nI 1), o_add, o_ald4 31, o_ald 0, o_ild 3, o_ic (nI 2), o_add, o_ald4 31, o_ald 0, o_ild 3, o_ic (nI 3), o_add, o_ald4 31, o_callI 259 4 11, o_ceq 1185, o_ic (nI 0), o_zret, o_ald 1, o_ald 0, o_ild 3, o_ic (nI 1), o_add, o_ald4 31, o_ald 0, o_ild 3, o_ic (nI 2), o_add, o_ald4 31, o_callI 143 3 10, o_ald 2, o_ald 0, o_ild 3, o_ic (nI 1), o_add, o_ald4 31, o_ald 0, o_ild 3, o_ic (nI 2), o_add, o_ald4 31, o_callI 254 3 11, o_ceq 1185, o_ic (nI 0), o_zret, o_ald 1, o_ald 0, o_ild 3, o_ic (nI 1), o_add, o_ald4 31, o_ald 0, o_ild 3, o_ic (nI 2), o_add, o_ald4 31, o_ald 0, o_ild 3, o_ic (nI 3), o_add, o_ald4 31, o_callI 144 4 10, o_ald 2, o_ald 0, o_ild 3, o_ic (nI 1), o_add, o_ald4 31, o_ald 0, o_ild 3, o_ic (nI 2), o_add, o_ald4 31, o_ald 0, o_ild 3, o_ic (nI 3), o_add, o_ald4 31, o_callI 267 4 11, o_ceq 1185, o_ic (nI 0), o_zret, o_ald 1, o_ald 0, o_ild 3, o_ic (nI 1), o_add, o_ald4 31, o_ald 0, o_ild 3, o_ic (nI 2), o_add, o_ald4 31, o_callI 145 3 10, o_ald 2, o_ald 0, o_ild 3, o_ic (nI 1), o_add, o_ald4 31, o_ald 0, o_ild 3, o_ic (nI 2), o_add, o_ald4 31, o_callI 268 3 11, o_ceq 1185, o_ic (nI 0), o_zret, o_ald 1, o_ald 0, o_ild 3, o_ic (nI 1), o_add, o_ald4 31, o_ald 0, o_ild 3, o_ic (nI 2), o_add, o_ald4 31, o_callI 146 3 10, o_ald 2, o_ald 0, o_ild 3, o_ic (nI 1), o_add, o_ald4 31, o_ald 0, o_ild 3, o_ic (nI 2), o_add, o_ald4 31, o_callI 269 3 11, o_ceq 1185, o_ic (nI 0), o_zret, o_ald 1, o_ald 0, o_ild 3, o_ic (nI 1), o_add, o_ald4 31, o_ald 0, o_ild 3, o_ic (nI 2), o_add, o_ald4 31, o_callI 147 3 10, o_ald 2, o_ald 0, o_ild 3, o_ic (nI 1), o_add, o_ald4 31, o_ald 0, o_ild 3, o_ic (nI 2), o_add, o_ald4 31, o_callI 272 3 11, o_ceq 1185, o_ic (nI 0), o_zret, o_ald 1, o_ald 0, o_ild 3, o_ic (nI 1), o_add, o_ald4 31, o_callI 148 2 10, o_ald 2, o_ald 0, o_ild 3, o_ic (nI 1), o_add, o_ald4 31, o_callI 273 2 11, o_ceq 1185, o_ic (nI 0), o_zret, o_ald 1, o_callI 149 1 10, o_ald 2, o_callI 274 1 11, o_ceq 1185, o_ic (nI 0), o_zret, o_ald 1, o_ald 0, o_ild 3, o_ic (nI 1), o_add, o_ald4 31, o_callI 150 2 10, o_ald 2, o_ald 0, o_ild 3, o_ic (nI 1), o_add, o_ald4 31, o_callI 275 2 11, o_ceq 1185, o_ic (nI 0), o_zret, o_ald 1, o_callI 151 1 10, o_ald 2, o_callI 280 1 11, o_ceq 1185, o_ic (nI 0), o_zret, o_ald 1, o_ald 0, o_ild 3, o_ic (nI 1), o_add, o_ald4 31, o_ald 0, o_ild 3, o_ic (nI 2), o_add, o_ald4 31, o_callI 152 3 10, o_ald 2, o_ald 0, o_ild 3, o_ic (nI 1), o_add, o_ald4 31, o_ald 0, o_ild 3, o_ic (nI 2), o_add, o_ald4 31, o_callI 281 3 11, o_ceq 1185, o_ic (nI 0), o_zret, o_ald 1, o_ald 0, o_ild 3, o_ic (nI 1), o_add, o_ald4 31, o_callI 153 2 10, o_ald 2, o_ald 0, o_ild 3, o_ic (nI 1), o_add, o_ald4 31, o_callI 282 2 11, o_ceq 1185, o_ic (nI 0), o_zret, o_ald 1, o_ald 0, o_ild 3, o_ic (nI 1), o_add, o_ald4 31, o_ald 0, o_ild 3, o_ic (nI 2), o_add, o_ald4 31, o_callI 154 3 10, o_ald 2, o_ald 0, o_ild 3, o_ic (nI 1), o_add, o_ald4 31, o_ald 0, o_ild 3, o_ic (nI 2), o_add, o_ald4 31, o_callI 289 3 11, o_ceq 1185, o_ic (nI 0), o_zret, o_ald 1, o_ald 0, o_ild 3, o_ic (nI 1), o_add, o_ald4 31, o_ald 0, o_ild 3, o_ic (nI 2), o_add, o_ald4 31, o_callI 155 3 10, o_ald 2, o_ald 0, o_ild 3, o_ic (nI 1), o_add, o_ald4 31, o_ald 0, o_ild 3, o_ic (nI 2), o_add, o_ald4 31, o_callI 290 3 11, o_ceq 1185, o_ic (nI 0), o_zret, o_ald 1, o_ald 0, o_ild 3, o_ic (nI 1), o_add, o_ald4 31, o_ald 0, o_ild 3, o_ic (nI 2), o_add, o_ald4 31, o_callI 156 3 10, o_ald 2, o_ald 0, o_ild 3, o_ic (nI 1), o_add, o_ald4 31, o_ald 0, o_ild 3, o_ic (nI 2), o_add, o_ald4 31, o_callI 285 3 11, o_ceq 1185, o_ic (nI 0), o_zret, o_ald 1, o_ald 0, o_ild 3, o_ic (nI 1), o_add, o_ald4 31, o_ald 0, o_ild 3, o_ic (nI 2), o_add, o_ald4 31, o_callI 157 3 10, o_ald 2, o_ald 0, o_ild 3, o_ic (nI 1), o_add, o_ald4 31, o_ald 0, o_ild 3, o_ic (nI 2), o_add, o_ald4 31, o_callI 287 3 11, o_ceq 1185, o_ic (nI 0), o_zret, o_ald 1, o_ald 0, o_ild 3, o_ic (nI 1), o_add, o_ald4 31, o_ald 0, o_ild 3, o_ic (nI 2), o_add, o_ald4 31, o_callI 158 3 10, o_ald 2, o_ald 0, o_ild 3, o_ic (nI 1), o_add, o_ald4 31, o_ald 0, o_ild 3, o_ic (nI 2), o_add, o_ald4 31, o_callI 286 3 11, o_ceq 1185, o_ic (nI 0), o_zret, o_ald 1, o_ald 0, o_ild 3, o_ic (nI 1), o_add, o_ald4 31, o_ald 0, o_ild 3, o_ic (nI 2), o_add, o_ald4 31, o_callI 159 3 10, o_ald 2, o_ald 0, o_ild 3, o_ic (nI 1), o_add, o_ald4 31, o_ald 0, o_ild 3, o_ic (nI 2), o_add, o_ald4 31, o_callI 293 3 11, o_ceq 1185, o_ic (nI 0), o_zret, o_ald 1, o_ald 0, o_ild 3, o_ic (nI 1), o_add, o_ald4 31, o_callI 160 2 10, o_ald 2, o_ald 0, o_ild 3, o_ic (nI 1), o_add, o_ald4 31, o_callI 295 2 11, o_ceq 1185, o_ic (nI 0), o_zret, o_ald 1, o_ald 0, o_ild 3, o_ic (nI 1), o_add, o_ald4 31, o_ald 0, o_ild 3, o_ic (nI 2), o_add, o_ald4 31, o_callI 161 3 10, o_ald 2, o_ald 0, o_ild 3, o_ic (nI 1), o_add, o_ald4 31, o_ald 0, o_ild 3, o_ic (nI 2), o_add, o_ald4 31, o_callI 297 3 11, o_ceq 1185, o_ic (nI 0), o_zret, o_ald 1, o_ald 0, o_ild 3, o_ic (nI 1), o_add, o_ald4 31, o_callI 162 2 10, o_ald 2, o_ald 0, o_ild 3, o_ic (nI 1), o_add, o_ald4 31, o_callI 301 2 11, o_ceq 1185, o_ic (nI 0), o_zret, o_ald 1, o_ald 0, o_ild 3, o_ic (nI 1), o_add, o_ald4 31, o_callI 163 2 10, o_ald 2, o_ald 0, o_ild 3, o_ic (nI 1), o_add, o_ald4 31, o_callI 302 2 11, o_ceq 1185, o_ic (nI 0), o_zret, o_ald 1, o_ald 0, o_ild 3, o_ic (nI 1), o_add, o_ald4 31, o_callI 164 2 10, o_ald 2, o_ald 0, o_ild 3, o_ic (nI 1), o_add, o_ald4 31, o_callI 303 2 11, o_ceq 1185, o_ic (nI 0), o_zret, o_ald 1, o_ald 0, o_ild 3, o_ic (nI 1), o_add, o_ald4 31, o_ald 0, o_ild 3, o_ic (nI 2), o_add, o_ald4 31, o_callI 165 3 10, o_ald 2, o_ald 0, o_ild 3, o_ic (nI 1), o_add, o_ald4 31, o_ald 0, o_ild 3, o_ic (nI 2), o_add, o_ald4 31, o_callI 305 3 11, o_ceq 1185, o_ic (nI 0), o_zret, o_ald 1, o_ald 0, o_ild 3, o_ic (nI 1), o_add, o_ald4 31, o_callI 166 2 10, o_ald 2, o_ald 0, o_ild 3, o_ic (nI 1), o_add, o_ald4 31, o_callI 306 2 11, o_ceq 1185, o_ic (nI 0), o_zret, o_ald 1, o_callI 167 1 10, o_ald 2, o_callI 307 1 11, o_ceq 1185, o_ic (nI 0), o_zret, o_ald 1, o_ald 0, o_ild 3, o_ic (nI 1), o_add, o_ald4 31, o_callI 168 2 10, o_ald 2, o_ald 0, o_ild 3, o_ic (nI 1), o_add, o_ald4 31, o_callI 230 2 11, o_ceq 1185, o_ic (nI 0), o_zret, o_ald 1, o_ald 0, o_ild 3, o_ic (nI 1), o_add, o_ald4 31, o_callI 169 2 10, o_ald 2, o_ald 0, o_ild 3, o_ic (nI 1), o_add, o_ald4 31, o_callI 231 2 11, o_ceq 1185, o_ic (nI 0), o_zret, o_ald 1, o_ald 0, o_ild 3, o_ic (nI 1), o_add, o_ald4 31, o_callI 170 2 10, o_ald 2, o_ald 0, o_ild 3, o_ic (nI 1), o_add, o_ald4 31, o_callI 232 2 11, o_ceq 1185, o_ic (nI 0), o_zret, o_ald 1, o_ald 0, o_ild 3, o_ic (nI 1), o_add, o_ald4 31, o_callI 171 2 10, o_ald 2, o_ald 0, o_ild 3, o_ic (nI 1), o_add, o_ald4 31, o_callI 308 2 11, o_ceq 1185, o_ic (nI 0), o_zret, o_inc 3 (nI 6), o_goto 10, o_ic (nI 1), o_zret] := mA (i := 480) (ok_ild_n (f := 3) (pc := 806) rfl rfl rfl (by decide +kernel)) (
  mA (i := 481) (ok_ic (n := 1) (pc := 807) (by decide +kernel) rfl rfl (by decide +kernel)) (
  mA (i := 482) (ok_add (pc := 808) rfl rfl (by decide +kernel)) (
  mA (i := 483) (ok_sald (pc := 809) rfl rfl (by decide +kernel)) (
  mA (i := 484) (ok_ald_n (f := 0) (pc := 810) rfl rfl rfl (by decide +kernel)) (
  mA (i := 485) (ok_ild_n (f := 3) (pc := 811) rfl rfl rfl (by decide +kernel)) (
  mA (i := 486) (ok_ic (n := 2) (pc := 812) (by decide +kernel) rfl rfl (by decide +kernel)) (
  mA (i := 487) (ok_add (pc := 813) rfl rfl (by decide +kernel)) (
  mA (i := 488) (ok_sald (pc := 814) rfl rfl (by decide +kernel)) (
  mA (i := 489) (ok_ald_n (f := 0) (pc := 815) rfl rfl rfl (by decide +kernel)) (
  mA (i := 490) (ok_ild_n (f := 3) (pc := 816) rfl rfl rfl (by decide +kernel)) (
  mA (i := 491) (ok_ic (n := 3) (pc := 817) (by decide +kernel) rfl rfl (by decide +kernel)) (
  mA (i := 492) (ok_add (pc := 818) rfl rfl (by decide +kernel)) (
  mA (i := 493) (ok_sald (pc := 819) rfl rfl (by decide +kernel)) (
  mA (i := 494) (ok_ald_n (f := 0) (pc := 820) rfl rfl rfl (by decide +kernel)) (
  mA (i := 495) (ok_ild_n (f := 3) (pc := 821) rfl rfl rfl (by decide +kernel)) (
  mA (i := 496) (ok_ic (n := 4) (pc := 822) (by decide +kernel) rfl rfl (by decide +kernel)) (
  mA (i := 497) (ok_add (pc := 823) rfl rfl (by decide +kernel)) (
  mA (i := 498) (ok_sald (pc := 824) rfl rfl (by decide +kernel)) (
  mA (i := 499) (ok_ald_n (f := 0) (pc := 825) rfl rfl rfl (by decide +kernel)) (
  mA (i := 500) (ok_ild_n (f := 3) (pc := 826) rfl rfl rfl (by decide +kernel)) (
  mA (i := 501) (ok_ic (n := 5) (pc := 827) (by decide +kernel) rfl rfl (by decide +kernel)) (
  mA (i := 502) (ok_add (pc := 828) rfl rfl (by decide +kernel)) (
  mA (i := 503) (ok_sald (pc := 829) rfl rfl (by decide +kernel)) (
  mA (i := 504) (ok_callI (pc := 830) (can_V cal_N_bound (by decide +kernel) rfl (by decide +kernel) rfl wd_947 wd_948 wd_949 wd_605 (by decide +kernel)) rfl rfl) (
  mA (i := 505) (ok_ceq (off := 868) (pc := 833) (tgt := 1701) rfl rfl rfl (by decide +kernel) (by decide +kernel)) (
  mA (i := 506) (ok_ic (n := 0) (pc := 836) (by decide +kernel) rfl rfl (by decide +kernel)) (
  mA (i := 507) (ok_zret (pc := 837) rfl rfl (by decide +kernel)) (
  mA (i := 508) (ok_ald_n (f := 1) (pc := 838) rfl rfl rfl (by decide +kernel)) (
  mA (i := 509) (ok_ald_n (f := 0) (pc := 839) rfl rfl rfl (by decide +kernel)) (
  mA (i := 510) (ok_ild_n (f := 3) (pc := 840) rfl rfl rfl (by decide +kernel)) (
  mA (i := 511) (ok_ic (n := 1) (pc := 841) (by decide +kernel) rfl rfl (by decide +kernel)) (
  mA (i := 512) (ok_add (pc := 842) rfl rfl (by decide +kernel)) (
  mA (i := 513) (ok_sald (pc := 843) rfl rfl (by decide +kernel)) (
  mA (i := 514) (ok_ald_n (f := 0) (pc := 844) rfl rfl rfl (by decide +kernel)) (
  mA (i := 515) (ok_ild_n (f := 3) (pc := 845) rfl rfl rfl (by decide +kernel)) (
  mA (i := 516) (ok_ic (n := 2) (pc := 846) (by decide +kernel) rfl rfl (by decide +kernel)) (
  mA (i := 517) (ok_add (pc := 847) rfl rfl (by decide +kernel)) (
  mA (i := 518) (ok_sald (pc := 848) rfl rfl (by decide +kernel)) (
  mA (i := 519) (ok_callI (pc := 849) (can_V cal_C_single (by decide +kernel) rfl (by decide +kernel) rfl wd_950 wd_951 wd_952 wd_35 (by decide +kernel)) rfl rfl) (
  mA (i := 520) (ok_ald_n (f := 2) (pc := 852) rfl rfl rfl (by decide +kernel)) (
  mA (i := 521) (ok_ald_n (f := 0) (pc := 853) rfl rfl rfl (by decide +kernel)) (
  mA (i := 522) (ok_ild_n (f := 3) (pc := 854) rfl rfl rfl (by decide +kernel)) (
  mA (i := 523) (ok_ic (n := 1) (pc := 855) (by decide +kernel) rfl rfl (by decide +kernel)) (
  mA (i := 524) (ok_add (pc := 856) rfl rfl (by decide +kernel)) (
  mA (i := 525) (ok_sald (pc := 857) rfl rfl (by decide +kernel)) (
  mA (i := 526) (ok_ald_n (f := 0) (pc := 858) rfl rfl rfl (by decide +kernel)) (
  mA (i := 527) (ok_ild_n (f := 3) (pc := 859) rfl rfl rfl (by decide +kernel)) (
  mA (i := 528) (ok_ic (n := 2) (pc := 860) (by decide +kernel) rfl rfl (by decide +kernel)) (
  mA (i := 529) (ok_add (pc := 861) rfl rfl (by decide +kernel)) (
  mA (i := 530) (ok_sald (pc := 862) rfl rfl (by decide +kernel)) (
  mA (i := 531) (ok_callI (pc := 863) (can_V cal_N_single (by decide +kernel) rfl (by decide +kernel) rfl wd_953 wd_954 wd_955 wd_605 (by decide +kernel)) rfl rfl) (
  mA (i := 532) (ok_ceq (off := 835) (pc := 866) (tgt := 1701) rfl rfl rfl (by decide +kernel) (by decide +kernel)) (
  mA (i := 533) (ok_ic (n := 0) (pc := 869) (by decide +kernel) rfl rfl (by decide +kernel)) (
  mA (i := 534) (ok_zret (pc := 870) rfl rfl (by decide +kernel)) (
  mA (i := 535) (ok_ald_n (f := 1) (pc := 871) rfl rfl rfl (by decide +kernel)) (
  mA (i := 536) (ok_ald_n (f := 0) (pc := 872) rfl rfl rfl (by decide +kernel)) (
  mA (i := 537) (ok_ild_n (f := 3) (pc := 873) rfl rfl rfl (by decide +kernel)) (
  mA (i := 538) (ok_ic (n := 1) (pc := 874) (by decide +kernel) rfl rfl (by decide +kernel)) (
  mA (i := 539) (ok_add (pc := 875) rfl rfl (by decide +kernel)) (
  ok_Lw_law_t540))))))))))))))))))))))))))))))))))))))))))))))))))))))))))))
set_option maxRecDepth 20000 in
theorem ok_Lw_law_t420 : mAll (mOk RL cL_law 4 true false (some .boolean) (mnat p_Lw_law)) 420 [o_ald 0, o_ild 3, o_ic (nI 4), o_add, o_ald4 31, o_callI 139 5 10, o_ald 2, o_ald 0, o_ild 3, o_ic (nI 1), o_add, o_ald4 31, o_ald 0, o_ild 3, o_ic (nI 2), o_add, o_ald4 31, o_ald 0, o_ild 3, o_ic (nI 3), o_add, o_ald4 31, o_ald 0, o_ild 3, o_ic (nI 4), o_add, o_ald4 31, o_callI 252 5 11, o_ceq 1185, o_ic (nI 0), o_zret, o_ald 1, o_ald 0, o_ild 3, o_ic (nI 1), o_add, o_ald4 31, o_ald 0, o_ild 3, o_ic (nI 2), o_add, o_ald4 31, o_ald 0, o_ild 3, o_ic (nI 3), o_add, o_ald4 31, o_ald 0, o_ild 3, o_ic (nI 4), o_add, o_ald4 31, o_ald 0, o_ild 3, o_ic (nI 5), o_add, o_ald4 31, o_callI 140 6 10, o_ald 2, o_ald 0, o_ild 3, o_ic (nI 1), o_add, o_ald4 31, o_ald 0, o_ild 3, o_ic (nI 2), o_add, o_ald4 31, o_ald 0, o_ild 3, o_ic (nI 3), o_add, o_ald4 31, o_ald 0, o_ild 3, o_ic (nI 4), o_add, o_ald4 31, o_ald 0, o_ild 3, o_ic (nI 5), o_add, o_ald4 31, o_callI 253 6 11, o_ceq 1185, o_ic (nI 0), o_zret, o_ald 1, o_ald 0, o_ild 3, o_ic (nI 1), o_add, o_ald4 31, o_ald 0, o_ild 3, o_ic (nI 2), o_add, o_ald4 31, o_callI 141 3 10, o_ald 2, o_ald 0, o_ild 3, o_ic (nI 1), o_add, o_ald4 31, o_ald 0, o_ild 3, o_ic (nI 2), o_add, o_ald4 31, o_callI 255 3 11, o_ceq 1185, o_ic (nI 0), o_zret, o_ald 1, o_ald 0, o_ild 3, o_ic (nI 1), o_add, o_ald4 31, o_ald 0, o_ild 3, o_ic (nI 2), o_add, o_ald4 31, o_ald 0, o_ild 3, o_ic (nI 3), o_add, o_ald4 31, o_callI 142 4 10, o_ald 2, o_ald 0, o_ild 3, o_ic (nI 1), o_add, o_ald4 31, o_ald 0, o_ild 3, o_ic (nI 2), o_add, o_ald4 31, o_ald 0, o_ild 3, o_ic (nI 3), o_add, o_ald4 31, o_callI 259 4 11, o_ceq 1185, o_ic (nI 0), o_zret, o_ald 1, o_ald 0, o_ild 3, o_ic (nI 1), o_add, o_ald4 31, o_ald 0, o_ild 3, o_ic (nI 2), o_add, o_ald4 31, o_callI 143 3 10, o_ald 2, o_ald 0, o_ild 3, o_ic (nI 1), o_add, o_ald4 31, o_ald 0, o_ild 3, o_ic (nI 2), o_add, o_ald4 31, o_callI 254 3 11, o_ceq 1185, o_ic (nI 0), o_zret, o_ald 1, o_ald 0, o_ild 3, o_ic (nI 1), o_add, o_ald4 31, o_ald 0, o_ild 3, o_ic (nI 2), o_add, o_ald4 31, o_ald 0, o_ild 3, o_ic (nI 3), o_add, o_ald4 31, o_callI 144 4 10, o_ald 2, o_ald 0, o_ild 3, o_ic (nI 1), o_add, o_ald4 31, o_ald 0, o_ild 3, o_ic (nI 2), o_add, o_ald4 31, o_ald 0, o_ild 3, o_ic (nI 3), o_add, o_ald4 31, o_callI 267 4 11, o_ceq 1185, o_ic (nI 0), o_zret, o_ald 1, o_ald 0, o_ild 3, o_ic (nI 1), o_add, o_ald4 31, o_ald 0, o_ild 3, o_ic (nI 2), o_add, o_ald4 31, o_callI 145 3 10, o_ald 2, o_ald 0, o_ild 3, o_ic (nI 1), o_add, o_ald4 31, o_ald 0, o_ild 3, o_ic (nI 2), o_add, o_ald4 31, o_callI 268 3 11, o_ceq 1185, o_ic (nI 0), o_zret, o_ald 1, o_ald 0, o_ild 3, o_ic (nI 1), o_add, o_ald4 31, o_ald 0, o_ild 3, o_ic (nI 2), o_add, o_ald4 31, o_callI 146 3 10, o_ald 2, o_ald 0, o_ild 3, o_ic (nI 1), o_add, o_ald4 31, o_ald 0, o_ild 3, o_ic (nI 2), o_add, o_ald4 31, o_callI 269 3 11, o_ceq 1185, o_ic (nI 0), o_zret, o_ald 1, o_ald 0, o_ild 3, o_ic (nI 1), o_add, o_ald4 31, o_ald 0, o_ild 3, o_ic (nI 2), o_add, o_ald4 31, o_callI 147 3 10, o_ald 2, o_ald 0, o_ild 3, o_ic (nI 1), o_add, o_ald4 31, o_ald 0, o_ild 3, o_ic (nI 2), o_add, o_ald4 31, o_callI 272 3 11, o_ceq 1185, o_ic (nI 0), o_zret, o_ald 1, o_ald 0, o_ild 3, o_ic (nI 1), o_add, o_ald4 31, o_callI 148 2 10, o_ald 2, o_ald 0, o_ild 3, o_ic (nI 1), o_add, o_ald4 31, o_callI 273 2 11, o_ceq 1185, o_ic (nI 0), o_zret, o_ald 1, o_callI 149 1 10, o_ald 2, o_callI 274 1 11, o_ceq 1185, o_ic (nI 0), o_zret, o_ald 1, o_ald 0, o_ild 3, o_ic (nI 1), o_add, o_ald4 31, o_callI 150 2 10, o_ald 2, o_ald 0, o_ild 3, o_ic (nI 1), o_add, o_ald4 31, o_callI 275 2 11, o_ceq 1185, o_ic (nI 0), o_zret, o_ald 1, o_callI 151 1 10, o_ald 2, o_callI 280 1 11, o_ceq 1185, o_ic (nI 0), o_zret, o_ald 1, o_ald 0, o_ild 3, o_ic (nI 1), o_add, o_ald4 31, o_ald 0, o_ild 3, o_ic (nI 2), o_add, o_ald4 31, o_callI 152 3 10, o_ald 2, o_ald 0, o_ild 3, o_ic (nI 1), o_add, o_ald4 31, o_ald 0, o_ild 3, o_ic (nI 2), o_add, o_ald4 31, o_callI 281 3 11, o_ceq 1185, o_ic (nI 0), o_zret, o_ald 1, o_ald 0, o_ild 3, o_ic (nI 1), o_add, o_ald4 31, o_callI 153 2 10, o_ald 2, o_ald 0, o_ild 3, o_ic (nI 1), o_add, o_ald4 31, o_callI 282 2 11, o_ceq 1185, o_ic (nI 0), o_zret, o_ald 1, o_ald 0, o_ild 3, o_ic (nI 1), o_add, o_ald4 31, o_ald 0, o_ild 3, o_ic (nI 2), o_add, o_ald4 31, o_callI 154 3 10, o_ald 2, o_ald 0, o_ild 3, o_ic (nI 1), o_add, o_ald4 31, o_ald 0, o_ild 3, o_ic (nI 2), o_add, o_ald4 31, o_callI 289 3 11, o_ceq 1185, o_ic (nI 0), o_zret, o_ald 1, o_ald 0, o_ild 3, o_ic (nI 1), o_add, o_ald4 31, o_ald 0, o_ild 3, o_ic (nI 2), o_add, o_ald4 31, o_callI 155 3 10, o_ald 2, o_ald 0, o_ild 3, o_ic (nI 1), o_add, o_ald4 31, o_ald 0, o_ild 3, o_ic (nI 2), o_add, o_ald4 31, o_callI 290 3 11, o_ceq 1185, o_ic (nI 0), o_zret, o_ald 1, o_ald 0, o_ild 3, o_ic (nI 1), o_add, o_ald4 31, o_ald 0, o_ild 3, o_ic (nI 2), o_add, o_ald4 31, o_callI 156 3 10, o_ald 2, o_ald 0, o_ild 3, o_ic (nI 1), o_add, o_ald4 31, o_ald 0, o_ild 3, o_ic (nI 2), o_add, o_ald4 31, o_callI 285 3 11, o_ceq 1185, o_ic (nI 0), o_zret, o_ald 1, o_ald 0, o_ild 3, o_ic (nI 1), o_add, o_ald4 31, o_ald 0, o_ild 3, o_ic (nI 2), o_add, o_ald4 31, o_callI 157 3 10, o_ald 2, o_ald 0, o_ild 3, o_ic (nI 1), o_add, o_ald4 31, o_ald 0, o_ild 3, o_ic (nI 2), o_add, o_ald4 31, o_callI 287 3 11, o_ceq 1185, o_ic (nI 0), o_zret, o_ald 1, o_ald 0, o_ild 3, o_ic (nI 1), o_add, o_ald4 31, o_ald 0, o_ild 3, o_ic (nI 2), o_add, o_ald4 31, o_callI 158 3 10, o_ald 2, o_ald 0, o_ild 3, o_ic (nI 1), o_add, o_ald4 31, o_ald 0, o_ild 3, o_ic (nI 2), o_add, o_ald4 31, o_callI 286 3 11, o_ceq 1185, o_ic (nI 0), o_zret, o_ald 1, o_ald 0, o_ild 3, o_ic (nI 1), o_add, o_ald4 31, o_ald 0, o_ild 3, o_ic (nI 2), o_add, o_ald4 31, o_callI 159 3 10, o_ald 2, o_ald 0, o_ild 3, o_ic (nI 1), o_add, o_ald4 31, o_ald 0, o_ild 3, o_ic (nI 2), o_add, o_ald4 31, o_callI 293 3 11, o_ceq 1185, o_ic (nI 0), o_zret, o_ald 1, o_ald 0, o_ild 3, o_ic (nI 1), o_add, o_ald4 31, o_callI 160 2 10, o_ald 2, o_ald 0, o_ild 3, o_ic (nI 1), o_add, o_ald4 31, o_callI 295 2 11, o_ceq 1185, o_ic (nI 0), o_zret, o_ald 1, o_ald 0, o_ild 3, o_ic (nI 1), o_add, o_ald4 31, o_ald 0, o_ild 3, o_ic (nI 2), o_add, o_ald4 31, o_callI 161 3 10, o_ald 2, o_ald 0, o_ild 3, o_ic (nI 1), o_add, o_ald4 31, o_ald 0, o_ild 3, o_ic (nI 2), o_add, o_ald4 31, o_callI 297 3 11, o_ceq 1185, o_ic (nI 0), o_zret, o_ald 1, o_ald 0, o_ild 3, o_ic (nI 1), o_add, o_ald4 31, o_callI 162 2 10, o_ald 2, o_ald 0, o_ild 3, o_ic (nI 1), o_add, o_ald4 31, o_callI 301 2 11, o_ceq 1185, o_ic (nI 0), o_zret, o_ald 1, o_ald 0, o_ild 3, o_ic (nI 1), o_add, o_ald4 31, o_callI 163 2 10, o_ald 2, o_ald 0, o_ild 3, o_ic (nI 1), o_add, o_ald4 31, o_callI 302 2 11, o_ceq 1185, o_ic (nI 0), o_zret, o_ald 1, o_ald 0, o_ild 3, o_ic (nI 1), o_add, o_ald4 31, o_callI 164 2 10, o_ald 2, o_ald 0, o_ild 3, o_ic (nI 1), o_add, o_ald4 31, o_callI 303 2 11, o_ceq 1185, o_ic (nI 0), o_zret, o_ald 1, o_ald 0, o_ild 3, o_ic (nI 1), o_add, o_ald4 31, o_ald 0, o_ild 3, o_ic (nI 2), o_add, o_ald4 31, o_callI 165 3 10, o_ald 2, o_ald 0, o_ild 3, o_ic (nI 1), o_add, o_ald4 31, o_ald 0, o_ild 3, o_ic (nI 2), o_add, o_ald4 31, o_callI 305 3 11, o_ceq 1185, o_ic (nI 0), o_zret, o_ald 1, o_ald 0, o_ild 3, o_ic (nI 1), o_add, o_ald4 31, o_callI 166 2 10, o_ald 2, o_ald 0, o_ild 3, o_ic (nI 1), o_add, o_ald4 31, o_callI 306 2 11, o_ceq 1185, o_ic (nI 0), o_zret, o_ald 1, o_callI 167 1 10, o_ald 2, o_callI 307 1 11, o_ceq 1185, o_ic (nI 0), o_zret, o_ald 1, o_ald 0, o_ild 3, o_ic (nI 1), o_add, o_ald4 31, o_callI 168 2 10, o_ald 2, o_ald 0, o_ild 3, o_ic (nI 1), o_add, o_ald4 31, o_callI 230 2 11, o_ceq 1185, o_ic (nI 0), o_zret, o_ald 1, o_ald 0, o_ild 3, o_ic (nI 1), o_add, o_ald4 31, o_callI 169 2 10, o_ald 2, o_ald 0, o_ild 3, o_ic (nI 1), o_add, o_ald4 31, o_callI 231 2 11, o_ceq 1185, o_ic (nI 0), o_zret, o_ald 1, o_ald 0, o_ild 3, o_ic (nI 1), o_add, o_ald4 31, o_callI 170 2 10, o_ald 2, o_ald 0, o_ild 3, o_ic (nI 1), o_add, o_ald4 31, o_callI 232 2 11, o_ceq 1185, o_ic (nI 0), o_zret, o_ald 1, o_ald 0, o_ild 3, o_ic (nI 1), o_add, o_ald4 31, o_callI 171 2 10, o_ald 2, o_ald 0, o_ild 3, o_ic (nI 1), o_add, o_ald4 31, o_callI 308 2 11, o_ceq 1185, o_ic (nI 0), o_zret, o_inc 3 (nI 6), o_goto 10, o_ic (nI 1), o_zret] := mA (i := 420) (ok_ald_n (f := 0) (pc := 738) rfl rfl rfl (by decide +kernel)) (
  mA (i := 421) (ok_ild_n (f := 3) (pc := 739) rfl rfl rfl (by decide +kernel)) (
  mA (i := 422) (ok_ic (n := 4) (pc := 740) (by decide +kernel) rfl rfl (by decide +kernel)) (
  mA (i := 423) (ok_add (pc := 741) rfl rfl (by decide +kernel)) (
  mA (i := 424) (ok_sald (pc := 742) rfl rfl (by decide +kernel)) (
  mA (i := 425) (ok_callI (pc := 743) (can_V cal_C_way (by decide +kernel) rfl (by decide +kernel) rfl wd_938 wd_939 wd_940 wd_35 (by decide +kernel)) rfl rfl) (
  mA (i := 426) (ok_ald_n (f := 2) (pc := 746) rfl rfl rfl (by decide +kernel)) (
  mA (i := 427) (ok_ald_n (f := 0) (pc := 747) rfl rfl rfl (by decide +kernel)) (
  mA (i := 428) (ok_ild_n (f := 3) (pc := 748) rfl rfl rfl (by decide +kernel)) (
  mA (i := 429) (ok_ic (n := 1) (pc := 749) (by decide +kernel) rfl rfl (by decide +kernel)) (
  mA (i := 430) (ok_add (pc := 750) rfl rfl (by decide +kernel)) (
  mA (i := 431) (ok_sald (pc := 751) rfl rfl (by decide +kernel)) (
  mA (i := 432) (ok_ald_n (f := 0) (pc := 752) rfl rfl rfl (by decide +kernel)) (
  mA (i := 433) (ok_ild_n (f := 3) (pc := 753) rfl rfl rfl (by decide +kernel)) (
  mA (i := 434) (ok_ic (n := 2) (pc := 754) (by decide +kernel) rfl rfl (by decide +kernel)) (
  mA (i := 435) (ok_add (pc := 755) rfl rfl (by decide +kernel)) (
  mA (i := 436) (ok_sald (pc := 756) rfl rfl (by decide +kernel)) (
  mA (i := 437) (ok_ald_n (f := 0) (pc := 757) rfl rfl rfl (by decide +kernel)) (
  mA (i := 438) (ok_ild_n (f := 3) (pc := 758) rfl rfl rfl (by decide +kernel)) (
  mA (i := 439) (ok_ic (n := 3) (pc := 759) (by decide +kernel) rfl rfl (by decide +kernel)) (
  mA (i := 440) (ok_add (pc := 760) rfl rfl (by decide +kernel)) (
  mA (i := 441) (ok_sald (pc := 761) rfl rfl (by decide +kernel)) (
  mA (i := 442) (ok_ald_n (f := 0) (pc := 762) rfl rfl rfl (by decide +kernel)) (
  mA (i := 443) (ok_ild_n (f := 3) (pc := 763) rfl rfl rfl (by decide +kernel)) (
  mA (i := 444) (ok_ic (n := 4) (pc := 764) (by decide +kernel) rfl rfl (by decide +kernel)) (
  mA (i := 445) (ok_add (pc := 765) rfl rfl (by decide +kernel)) (
  mA (i := 446) (ok_sald (pc := 766) rfl rfl (by decide +kernel)) (
  mA (i := 447) (ok_callI (pc := 767) (can_V cal_N_way (by decide +kernel) rfl (by decide +kernel) rfl wd_941 wd_942 wd_943 wd_605 (by decide +kernel)) rfl rfl) (
  mA (i := 448) (ok_ceq (off := 931) (pc := 770) (tgt := 1701) rfl rfl rfl (by decide +kernel) (by decide +kernel)) (
  mA (i := 449) (ok_ic (n := 0) (pc := 773) (by decide +kernel) rfl rfl (by decide +kernel)) (
  mA (i := 450) (ok_zret (pc := 774) rfl rfl (by decide +kernel)) (
  mA (i := 451) (ok_ald_n (f := 1) (pc := 775) rfl rfl rfl (by decide +kernel)) (
  mA (i := 452) (ok_ald_n (f := 0) (pc := 776) rfl rfl rfl (by decide +kernel)) (
  mA (i := 453) (ok_ild_n (f := 3) (pc := 777) rfl rfl rfl (by decide +kernel)) (
  mA (i := 454) (ok_ic (n := 1) (pc := 778) (by decide +kernel) rfl rfl (by decide +kernel)) (
  mA (i := 455) (ok_add (pc := 779) rfl rfl (by decide +kernel)) (
  mA (i := 456) (ok_sald (pc := 780) rfl rfl (by decide +kernel)) (
  mA (i := 457) (ok_ald_n (f := 0) (pc := 781) rfl rfl rfl (by decide +kernel)) (
  mA (i := 458) (ok_ild_n (f := 3) (pc := 782) rfl rfl rfl (by decide +kernel)) (
  mA (i := 459) (ok_ic (n := 2) (pc := 783) (by decide +kernel) rfl rfl (by decide +kernel)) (
  mA (i := 460) (ok_add (pc := 784) rfl rfl (by decide +kernel)) (
  mA (i := 461) (ok_sald (pc := 785) rfl rfl (by decide +kernel)) (
  mA (i := 462) (ok_ald_n (f := 0) (pc := 786) rfl rfl rfl (by decide +kernel)) (
  mA (i := 463) (ok_ild_n (f := 3) (pc := 787) rfl rfl rfl (by decide +kernel)) (
  mA (i := 464) (ok_ic (n := 3) (pc := 788) (by decide +kernel) rfl rfl (by decide +kernel)) (
  mA (i := 465) (ok_add (pc := 789) rfl rfl (by decide +kernel)) (
  mA (i := 466) (ok_sald (pc := 790) rfl rfl (by decide +kernel)) (
  mA (i := 467) (ok_ald_n (f := 0) (pc := 791) rfl rfl rfl (by decide +kernel)) (
  mA (i := 468) (ok_ild_n (f := 3) (pc := 792) rfl rfl rfl (by decide +kernel)) (
  mA (i := 469) (ok_ic (n := 4) (pc := 793) (by decide +kernel) rfl rfl (by decide +kernel)) (
  mA (i := 470) (ok_add (pc := 794) rfl rfl (by decide +kernel)) (
  mA (i := 471) (ok_sald (pc := 795) rfl rfl (by decide +kernel)) (
  mA (i := 472) (ok_ald_n (f := 0) (pc := 796) rfl rfl rfl (by decide +kernel)) (
  mA (i := 473) (ok_ild_n (f := 3) (pc := 797) rfl rfl rfl (by decide +kernel)) (
  mA (i := 474) (ok_ic (n := 5) (pc := 798) (by decide +kernel) rfl rfl (by decide +kernel)) (
  mA (i := 475) (ok_add (pc := 799) rfl rfl (by decide +kernel)) (
  mA (i := 476) (ok_sald (pc := 800) rfl rfl (by decide +kernel)) (
  mA (i := 477) (ok_callI (pc := 801) (can_V cal_C_bound (by decide +kernel) rfl (by decide +kernel) rfl wd_944 wd_945 wd_946 wd_35 (by decide +kernel)) rfl rfl) (
  mA (i := 478) (ok_ald_n (f := 2) (pc := 804) rfl rfl rfl (by decide +kernel)) (
  mA (i := 479) (ok_ald_n (f := 0) (pc := 805) rfl rfl rfl (by decide +kernel)) (
  ok_Lw_law_t480))))))))))))))))))))))))))))))))))))))))))))))))))))))))))))
set_option maxRecDepth 20000 in
theorem ok_Lw_law_t360 : mAll (mOk RL cL_law 4 true false (some .boolean) (mnat p_Lw_law)) 360 [o_ic (nI 3), o_add, o_ald4 31, o_callI 250 4 11, o_ceq 1185, o_ic (nI 0), o_zret, o_ald 1, o_ald 0, o_ild 3, o_ic (nI 1), o_add, o_ald4 31, o_ald 0, o_ild 3, o_ic (nI 2), o_add, o_ald4 31, o_ald 0, o_ild 3, o_ic (nI 3), o_add, o_ald4 31, o_callI 138 4 10, o_ald 2, o_ald 0, o_ild 3, o_ic (nI 1), o_add, o_ald4 31, o_ald 0, o_ild 3, o_ic (nI 2), o_add, o_ald4 31, o_ald 0, o_ild 3, o_ic (nI 3), o_add, o_ald4 31, o_callI 251 4 11, o_ceq 1185, o_ic (nI 0), o_zret, o_ald 1, o_ald 0, o_ild 3, o_ic (nI 1), o_add, o_ald4 31, o_ald 0, o_ild 3, o_ic (nI 2), o_add, o_ald4 31, o_ald 0, o_ild 3, o_ic (nI 3), o_add, o_ald4 31, o_ald 0, o_ild 3, o_ic (nI 4), o_add, o_ald4 31, o_callI 139 5 10, o_ald 2, o_ald 0, o_ild 3, o_ic (nI 1), o_add, o_ald4 31, o_ald 0, o_ild 3, o_ic (nI 2), o_add, o_ald4 31, o_ald 0, o_ild 3, o_ic (nI 3), o_add, o_ald4 31, o_ald 0, o_ild 3, o_ic (nI 4), o_add, o_ald4 31, o_callI 252 5 11, o_ceq 1185, o_ic (nI 0), o_zret, o_ald 1, o_ald 0, o_ild 3, o_ic (nI 1), o_add, o_ald4 31, o_ald 0, o_ild 3, o_ic (nI 2), o_add, o_ald4 31, o_ald 0, o_ild 3, o_ic (nI 3), o_add, o_ald4 31, o_ald 0, o_ild 3, o_ic (nI 4), o_add, o_ald4 31, o_ald 0, o_ild 3, o_ic (nI 5), o_add, o_ald4 31, o_callI 140 6 10, o_ald 2, o_ald 0, o_ild 3, o_ic (nI 1), o_add, o_ald4 31, o_ald 0, o_ild 3, o_ic (nI 2), o_add, o_ald4 31, o_ald 0, o_ild 3, o_ic (nI 3), o_add, o_ald4 31, o_ald 0, o_ild 3, o_ic (nI 4), o_add, o_ald4 31, o_ald 0, o_ild 3, o_ic (nI 5), o_add, o_ald4 31, o_callI 253 6 11, o_ceq 1185, o_ic (nI 0), o_zret, o_ald 1, o_ald 0, o_ild 3, o_ic (nI 1), o_add, o_ald4 31, o_ald 0, o_ild 3, o_ic (nI 2), o_add, o_ald4 31, o_callI 141 3 10, o_ald 2, o_ald 0, o_ild 3, o_ic (nI 1), o_add, o_ald4 31, o_ald 0, o_ild 3, o_ic (nI 2), o_add, o_ald4 31, o_callI 255 3 11, o_ceq 1185, o_ic (nI 0), o_zret, o_ald 1, o_ald 0, o_ild 3, o_ic (nI 1), o_add, o_ald4 31, o_ald 0, o_ild 3, o_ic (nI 2), o_add, o_ald4 31, o_ald 0, o_ild 3, o_ic (nI 3), o_add, o_ald4 31, o_callI 142 4 10, o_ald 2, o_ald 0, o_ild 3, o_ic (nI 1), o_add, o_ald4 31, o_ald 0, o_ild 3, o_ic (nI 2), o_add, o_ald4 31, o_ald 0, o_ild 3, o_ic (nI 3), o_add, o_ald4 31, o_callI 259 4 11, o_ceq 1185, o_ic (nI 0), o_zret, o_ald 1, o_ald 0, o_ild 3, o_ic (nI 1), o_add, o_ald4 31, o_ald 0, o_ild 3, o_ic (nI 2), o_add, o_ald4 31, o_callI 143 3 10, o_ald 2, o_ald 0, o_ild 3, o_ic (nI 1), o_add, o_ald4 31, o_ald 0, o_ild 3, o_ic (nI 2), o_add, o_ald4 31, o_callI 254 3 11, o_ceq 1185, o_ic (nI 0), o_zret, o_ald 1, o_ald 0, o_ild 3, o_ic (nI 1), o_add, o_ald4 31, o_ald 0, o_ild 3, o_ic (nI 2), o_add, o_ald4 31, o_ald 0, o_ild 3, o_ic (nI 3), o_add, o_ald4 31, o_callI 144 4 10, o_ald 2, o_ald 0, o_ild 3, o_ic (nI 1), o_add, o_ald4 31, o_ald 0, o_ild 3, o_ic (nI 2), o_add, o_ald4 31, o_ald 0, o_ild 3, o_ic (nI 3), o_add, o_ald4 31, o_callI 267 4 11, o_ceq 1185, o_ic (nI 0), o_zret, o_ald 1, o_ald 0, o_ild 3, o_ic (nI 1), o_add, o_ald4 31, o_ald 0, o_ild 3, o_ic (nI 2), o_add, o_ald4 31, o_callI 145 3 10, o_ald 2, o_ald 0, o_ild 3, o_ic (nI 1), o_add, o_ald4 31, o_ald 0, o_ild 3, o_ic (nI 2), o_add, o_ald4 31, o_callI 268 3 11, o_ceq 1185, o_ic (nI 0), o_zret, o_ald 1, o_ald 0, o_ild 3, o_ic (nI 1), o_add, o_ald4 31, o_ald 0, o_ild 3, o_ic (nI 2), o_add, o_ald4 31, o_callI 146 3 10, o_ald 2, o_ald 0, o_ild 3, o_ic (nI 1), o_add, o_ald4 31, o_ald 0, o_ild 3, o_ic (nI 2), o_add, o_ald4 31, o_callI 269 3 11, o_ceq 1185, o_ic (nI 0), o_zret, o_ald 1, o_ald 0, o_ild 3, o_ic (nI 1), o_add, o_ald4 31, o_ald 0, o_ild 3, o_ic (nI 2), o_add, o_ald4 31, o_callI 147 3 10, o_ald 2, o_ald 0, o_ild 3, o_ic (nI 1), o_add, o_ald4 31, o_ald 0, o_ild 3, o_ic (nI 2), o_add, o_ald4 31, o_callI 272 3 11, o_ceq 1185, o_ic (nI 0), o_zret, o_ald 1, o_ald 0, o_ild 3, o_ic (nI 1), o_add, o_ald4 31, o_callI 148 2 10, o_ald 2, o_ald 0, o_ild 3, o_ic (nI 1), o_add, o_ald4 31, o_callI 273 2 11, o_ceq 1185, o_ic (nI 0), o_zret, o_ald 1, o_callI 149 1 10, o_ald 2, o_callI 274 1 11, o_ceq 1185, o_ic (nI 0), o_zret, o_ald 1, o_ald 0, o_ild 3, o_ic (nI 1), o_add, o_ald4 31, o_callI 150 2 10, o_ald 2, o_ald 0, o_ild 3, o_ic (nI 1), o_add, o_ald4 31, o_callI 275 2 11, o_ceq 1185, o_ic (nI 0), o_zret, o_ald 1, o_callI 151 1 10, o_ald 2, o_callI 280 1 11, o_ceq 1185, o_ic (nI 0), o_zret, o_ald 1, o_ald 0, o_ild 3, o_ic (nI 1), o_add, o_ald4 31, o_ald 0, o_ild 3, o_ic (nI 2), o_add, o_ald4 31, o_callI 152 3 10, o_ald 2, o_ald 0, o_ild 3, o_ic (nI 1), o_add, o_ald4 31, o_ald 0, o_ild 3, o_ic (nI 2), o_add, o_ald4 31, o_callI 281 3 11, o_ceq 1185, o_ic (nI 0), o_zret, o_ald 1, o_ald 0, o_ild 3, o_ic (nI 1), o_add, o_ald4 31, o_callI 153 2 10, o_ald 2, o_ald 0, o_ild 3, o_ic (nI 1), o_add, o_ald4 31, o_callI 282 2 11, o_ceq 1185, o_ic (nI 0), o_zret, o_ald 1, o_ald 0, o_ild 3, o_ic (nI 1), o_add, o_ald4 31, o_ald 0, o_ild 3, o_ic (nI 2), o_add, o_ald4 31, o_callI 154 3 10, o_ald 2, o_ald 0, o_ild 3, o_ic (nI 1), o_add, o_ald4 31, o_ald 0, o_ild 3, o_ic (nI 2), o_add, o_ald4 31, o_callI 289 3 11, o_ceq 1185, o_ic (nI 0), o_zret, o_ald 1, o_ald 0, o_ild 3, o_ic (nI 1), o_add, o_ald4 31, o_ald 0, o_ild 3, o_ic (nI 2), o_add, o_ald4 31, o_callI 155 3 10, o_ald 2, o_ald 0, o_ild 3, o_ic (nI 1), o_add, o_ald4 31, o_ald 0, o_ild 3, o_ic (nI 2), o_add, o_ald4 31, o_callI 290 3 11, o_ceq 1185, o_ic (nI 0), o_zret, o_ald 1, o_ald 0, o_ild 3, o_ic (nI 1), o_add, o_ald4 31, o_ald 0, o_ild 3, o_ic (nI 2), o_add, o_ald4 31, o_callI 156 3 10, o_ald 2, o_ald 0, o_ild 3, o_ic (nI 1), o_add, o_ald4 31, o_ald 0, o_ild 3, o_ic (nI 2), o_add, o_ald4 31, o_callI 285 3 11, o_ceq 1185, o_ic (nI 0), o_zret, o_ald 1, o_ald 0, o_ild 3, o_ic (nI 1), o_add, o_ald4 31, o_ald 0, o_ild 3, o_ic (nI 2), o_add, o_ald4 31, o_callI 157 3 10, o_ald 2, o_ald 0, o_ild 3, o_ic (nI 1), o_add, o_ald4 31, o_ald 0, o_ild 3, o_ic (nI 2), o_add, o_ald4 31, o_callI 287 3 11, o_ceq 1185, o_ic (nI 0), o_zret, o_ald 1, o_ald 0, o_ild 3, o_ic (nI 1), o_add, o_ald4 31, o_ald 0, o_ild 3, o_ic (nI 2), o_add, o_ald4 31, o_callI 158 3 10, o_ald 2, o_ald 0, o_ild 3, o_ic (nI 1), o_add, o_ald4 31, o_ald 0, o_ild 3, o_ic (nI 2), o_add, o_ald4 31, o_callI 286 3 11, o_ceq 1185, o_ic (nI 0), o_zret, o_ald 1, o_ald 0, o_ild 3, o_ic (nI 1), o_add, o_ald4 31, o_ald 0, o_ild 3, o_ic (nI 2), o_add, o_ald4 31, o_callI 159 3 10, o_ald 2, o_ald 0, o_ild 3, o_ic (nI 1), o_add, o_ald4 31, o_ald 0, o_ild 3, o_ic (nI 2), o_add, o_ald4 31, o_callI 293 3 11, o_ceq 1185, o_ic (nI 0), o_zret, o_ald 1, o_ald 0, o_ild 3, o_ic (nI 1), o_add, o_ald4 31, o_callI 160 2 10, o_ald 2, o_ald 0, o_ild 3, o_ic (nI 1), o_add, o_ald4 31, o_callI 295 2 11, o_ceq 1185, o_ic (nI 0), o_zret, o_ald 1, o_ald 0, o_ild 3, o_ic (nI 1), o_add, o_ald4 31, o_ald 0, o_ild 3, o_ic (nI 2), o_add, o_ald4 31, o_callI 161 3 10, o_ald 2, o_ald 0, o_ild 3, o_ic (nI 1), o_add, o_ald4 31, o_ald 0, o_ild 3, o_ic (nI 2), o_add, o_ald4 31, o_callI 297 3 11, o_ceq 1185, o_ic (nI 0), o_zret, o_ald 1, o_ald 0, o_ild 3, o_ic (nI 1), o_add, o_ald4 31, o_callI 162 2 10, o_ald 2, o_ald 0, o_ild 3, o_ic (nI 1), o_add, o_ald4 31, o_callI 301 2 11, o_ceq 1185, o_ic (nI 0), o_zret, o_ald 1, o_ald 0, o_ild 3, o_ic (nI 1), o_add, o_ald4 31, o_callI 163 2 10, o_ald 2, o_ald 0, o_ild 3, o_ic (nI 1), o_add, o_ald4 31, o_callI 302 2 11, o_ceq 1185, o_ic (nI 0), o_zret, o_ald 1, o_ald 0, o_ild 3, o_ic (nI 1), o_add, o_ald4 31, o_callI 164 2 10, o_ald 2, o_ald 0, o_ild 3, o_ic (nI 1), o_add, o_ald4 31, o_callI 303 2 11, o_ceq 1185, o_ic (nI 0), o_zret, o_ald 1, o_ald 0, o_ild 3, o_ic (nI 1), o_add, o_ald4 31, o_ald 0, o_ild 3, o_ic (nI 2), o_add, o_ald4 31, o_callI 165 3 10, o_ald 2, o_ald 0, o_ild 3, o_ic (nI 1), o_add, o_ald4 31, o_ald 0, o_ild 3, o_ic (nI 2), o_add, o_ald4 31, o_callI 305 3 11, o_ceq 1185, o_ic (nI 0), o_zret, o_ald 1, o_ald 0, o_ild 3, o_ic (nI 1), o_add, o_ald4 31, o_callI 166 2 10, o_ald 2, o_ald 0, o_ild 3, o_ic (nI 1), o_add, o_ald4 31, o_callI 306 2 11, o_ceq 1185, o_ic (nI 0), o_zret, o_ald 1, o_callI 167 1 10, o_ald 2, o_callI 307 1 11, o_ceq 1185, o_ic (nI 0), o_zret, o_ald 1, o_ald 0, o_ild 3, o_ic (nI 1), o_add, o_ald4 31, o_callI 168 2 10, o_ald 2, o_ald 0, o_ild 3, o_ic (nI 1), o_add, o_ald4 31, o_callI 230 2 11, o_ceq 1185, o_ic (nI 0), o_zret, o_ald 1, o_ald 0, o_ild 3, o_ic (nI 1), o_add, o_ald4 31, o_callI 169 2 10, o_ald 2, o_ald 0, o_ild 3, o_ic (nI 1), o_add, o_ald4 31, o_callI 231 2 11, o_ceq 1185, o_ic (nI 0), o_zret, o_ald 1, o_ald 0, o_ild 3, o_ic (nI 1), o_add, o_ald4 31, o_callI 170 2 10, o_ald 2, o_ald 0, o_ild 3, o_ic (nI 1), o_add, o_ald4 31, o_callI 232 2 11, o_ceq 1185, o_ic (nI 0), o_zret, o_ald 1, o_ald 0, o_ild 3, o_ic (nI 1), o_add, o_ald4 31, o_callI 171 2 10, o_ald 2, o_ald 0, o_ild 3, o_ic (nI 1), o_add, o_ald4 31, o_callI 308 2 11, o_ceq 1185, o_ic (nI 0), o_zret, o_inc 3 (nI 6), o_goto 10, o_ic (nI 1), o_zret] := mA (i := 360) (ok_ic (n := 3) (pc := 668) (by decide +kernel) rfl rfl (by decide +kernel)) (
  mA (i := 361) (ok_add (pc := 669) rfl rfl (by decide +kernel)) (
  mA (i := 362) (ok_sald (pc := 670) rfl rfl (by decide +kernel)) (
  mA (i := 363) (ok_callI (pc := 671) (can_V cal_N_covers (by decide +kernel) rfl (by decide +kernel) rfl wd_929 wd_930 wd_931 wd_605 (by decide +kernel)) rfl rfl) (
  mA (i := 364) (ok_ceq (off := 1027) (pc := 674) (tgt := 1701) rfl rfl rfl (by decide +kernel) (by decide +kernel)) (
  mA (i := 365) (ok_ic (n := 0) (pc := 677) (by decide +kernel) rfl rfl (by decide +kernel)) (
  mA (i := 366) (ok_zret (pc := 678) rfl rfl (by decide +kernel)) (
  mA (i := 367) (ok_ald_n (f := 1) (pc := 679) rfl rfl rfl (by decide +kernel)) (
  mA (i := 368) (ok_ald_n (f := 0) (pc := 680) rfl rfl rfl (by decide +kernel)) (
  mA (i := 369) (ok_ild_n (f := 3) (pc := 681) rfl rfl rfl (by decide +kernel)) (
  mA (i := 370) (ok_ic (n := 1) (pc := 682) (by decide +kernel) rfl rfl (by decide +kernel)) (
  mA (i := 371) (ok_add (pc := 683) rfl rfl (by decide +kernel)) (
  mA (i := 372) (ok_sald (pc := 684) rfl rfl (by decide +kernel)) (
  mA (i := 373) (ok_ald_n (f := 0) (pc := 685) rfl rfl rfl (by decide +kernel)) (
  mA (i := 374) (ok_ild_n (f := 3) (pc := 686) rfl rfl rfl (by decide +kernel)) (
  mA (i := 375) (ok_ic (n := 2) (pc := 687) (by decide +kernel) rfl rfl (by decide +kernel)) (
  mA (i := 376) (ok_add (pc := 688) rfl rfl (by decide +kernel)) (
  mA (i := 377) (ok_sald (pc := 689) rfl rfl (by decide +kernel)) (
  mA (i := 378) (ok_ald_n (f := 0) (pc := 690) rfl rfl rfl (by decide +kernel)) (
  mA (i := 379) (ok_ild_n (f := 3) (pc := 691) rfl rfl rfl (by decide +kernel)) (
  mA (i := 380) (ok_ic (n := 3) (pc := 692) (by decide +kernel) rfl rfl (by decide +kernel)) (
  mA (i := 381) (ok_add (pc := 693) rfl rfl (by decide +kernel)) (
  mA (i := 382) (ok_sald (pc := 694) rfl rfl (by decide +kernel)) (
  mA (i := 383) (ok_callI (pc := 695) (can_V cal_C_ways (by decide +kernel) rfl (by decide +kernel) rfl wd_932 wd_933 wd_934 wd_35 (by decide +kernel)) rfl rfl) (
  mA (i := 384) (ok_ald_n (f := 2) (pc := 698) rfl rfl rfl (by decide +kernel)) (
  mA (i := 385) (ok_ald_n (f := 0) (pc := 699) rfl rfl rfl (by decide +kernel)) (
  mA (i := 386) (ok_ild_n (f := 3) (pc := 700) rfl rfl rfl (by decide +kernel)) (
  mA (i := 387) (ok_ic (n := 1) (pc := 701) (by decide +kernel) rfl rfl (by decide +kernel)) (
  mA (i := 388) (ok_add (pc := 702) rfl rfl (by decide +kernel)) (
  mA (i := 389) (ok_sald (pc := 703) rfl rfl (by decide +kernel)) (
  mA (i := 390) (ok_ald_n (f := 0) (pc := 704) rfl rfl rfl (by decide +kernel)) (
  mA (i := 391) (ok_ild_n (f := 3) (pc := 705) rfl rfl rfl (by decide +kernel)) (
  mA (i := 392) (ok_ic (n := 2) (pc := 706) (by decide +kernel) rfl rfl (by decide +kernel)) (
  mA (i := 393) (ok_add (pc := 707) rfl rfl (by decide +kernel)) (
  mA (i := 394) (ok_sald (pc := 708) rfl rfl (by decide +kernel)) (
  mA (i := 395) (ok_ald_n (f := 0) (pc := 709) rfl rfl rfl (by decide +kernel)) (
  mA (i := 396) (ok_ild_n (f := 3) (pc := 710) rfl rfl rfl (by decide +kernel)) (
  mA (i := 397) (ok_ic (n := 3) (pc := 711) (by decide +kernel) rfl rfl (by decide +kernel)) (
  mA (i := 398) (ok_add (pc := 712) rfl rfl (by decide +kernel)) (
  mA (i := 399) (ok_sald (pc := 713) rfl rfl (by decide +kernel)) (
  mA (i := 400) (ok_callI (pc := 714) (can_V cal_N_ways (by decide +kernel) rfl (by decide +kernel) rfl wd_935 wd_936 wd_937 wd_605 (by decide +kernel)) rfl rfl) (
  mA (i := 401) (ok_ceq (off := 984) (pc := 717) (tgt := 1701) rfl rfl rfl (by decide +kernel) (by decide +kernel)) (
  mA (i := 402) (ok_ic (n := 0) (pc := 720) (by decide +kernel) rfl rfl (by decide +kernel)) (
  mA (i := 403) (ok_zret (pc := 721) rfl rfl (by decide +kernel)) (
  mA (i := 404) (ok_ald_n (f := 1) (pc := 722) rfl rfl rfl (by decide +kernel)) (
  mA (i := 405) (ok_ald_n (f := 0) (pc := 723) rfl rfl rfl (by decide +kernel)) (
  mA (i := 406) (ok_ild_n (f := 3) (pc := 724) rfl rfl rfl (by decide +kernel)) (
  mA (i := 407) (ok_ic (n := 1) (pc := 725) (by decide +kernel) rfl rfl (by decide +kernel)) (
  mA (i := 408) (ok_add (pc := 726) rfl rfl (by decide +kernel)) (
  mA (i := 409) (ok_sald (pc := 727) rfl rfl (by decide +kernel)) (
  mA (i := 410) (ok_ald_n (f := 0) (pc := 728) rfl rfl rfl (by decide +kernel)) (
  mA (i := 411) (ok_ild_n (f := 3) (pc := 729) rfl rfl rfl (by decide +kernel)) (
  mA (i := 412) (ok_ic (n := 2) (pc := 730) (by decide +kernel) rfl rfl (by decide +kernel)) (
  mA (i := 413) (ok_add (pc := 731) rfl rfl (by decide +kernel)) (
  mA (i := 414) (ok_sald (pc := 732) rfl rfl (by decide +kernel)) (
  mA (i := 415) (ok_ald_n (f := 0) (pc := 733) rfl rfl rfl (by decide +kernel)) (
  mA (i := 416) (ok_ild_n (f := 3) (pc := 734) rfl rfl rfl (by decide +kernel)) (
  mA (i := 417) (ok_ic (n := 3) (pc := 735) (by decide +kernel) rfl rfl (by decide +kernel)) (
  mA (i := 418) (ok_add (pc := 736) rfl rfl (by decide +kernel)) (
  mA (i := 419) (ok_sald (pc := 737) rfl rfl (by decide +kernel)) (
  ok_Lw_law_t420))))))))))))))))))))))))))))))))))))))))))))))))))))))))))))
set_option maxRecDepth 20000 in
theorem ok_Lw_law_t300 : mAll (mOk RL cL_law 4 true false (some .boolean) (mnat p_Lw_law)) 300 [o_ceq 1185, o_ic (nI 0), o_zret, o_ald 1, o_ald 0, o_ild 3, o_ic (nI 1), o_add, o_ald4 31, o_ald 0, o_ild 3, o_ic (nI 2), o_add, o_ald4 31, o_callI 136 3 10, o_ald 2, o_ald 0, o_ild 3, o_ic (nI 1), o_add, o_ald4 31, o_ald 0, o_ild 3, o_ic (nI 2), o_add, o_ald4 31, o_callI 261 3 11, o_ceq 1185, o_ic (nI 0), o_zret, o_ald 1, o_ald 0, o_ild 3, o_ic (nI 1), o_add, o_ald4 31, o_ald 0, o_ild 3, o_ic (nI 2), o_add, o_ald4 31, o_ald 0, o_ild 3, o_ic (nI 3), o_add, o_ald4 31, o_callI 137 4 10, o_ald 2, o_ald 0, o_ild 3, o_ic (nI 1), o_add, o_ald4 31, o_ald 0, o_ild 3, o_ic (nI 2), o_add, o_ald4 31, o_ald 0, o_ild 3, o_ic (nI 3), o_add, o_ald4 31, o_callI 250 4 11, o_ceq 1185, o_ic (nI 0), o_zret, o_ald 1, o_ald 0, o_ild 3, o_ic (nI 1), o_add, o_ald4 31, o_ald 0, o_ild 3, o_ic (nI 2), o_add, o_ald4 31, o_ald 0, o_ild 3, o_ic (nI 3), o_add, o_ald4 31, o_callI 138 4 10, o_ald 2, o_ald 0, o_ild 3, o_ic (nI 1), o_add, o_ald4 31, o_ald 0, o_ild 3, o_ic (nI 2), o_add, o_ald4 31, o_ald 0, o_ild 3, o_ic (nI 3), o_add, o_ald4 31, o_callI 251 4 11, o_ceq 1185, o_ic (nI 0), o_zret, o_ald 1, o_ald 0, o_ild 3, o_ic (nI 1), o_add, o_ald4 31, o_ald 0, o_ild 3, o_ic (nI 2), o_add, o_ald4 31, o_ald 0, o_ild 3, o_ic (nI 3), o_add, o_ald4 31, o_ald 0, o_ild 3, o_ic (nI 4), o_add, o_ald4 31, o_callI 139 5 10, o_ald 2, o_ald 0, o_ild 3, o_ic (nI 1), o_add, o_ald4 31, o_ald 0, o_ild 3, o_ic (nI 2), o_add, o_ald4 31, o_ald 0, o_ild 3, o_ic (nI 3), o_add, o_ald4 31, o_ald 0, o_ild 3, o_ic (nI 4), o_add, o_ald4 31, o_callI 252 5 11, o_ceq 1185, o_ic (nI 0), o_zret, o_ald 1, o_ald 0, o_ild 3, o_ic (nI 1), o_add, o_ald4 31, o_ald 0, o_ild 3, o_ic (nI 2), o_add, o_ald4 31, o_ald 0, o_ild 3, o_ic (nI 3), o_add, o_ald4 31, o_ald 0, o_ild 3, o_ic (nI 4), o_add, o_ald4 31, o_ald 0, o_ild 3, o_ic (nI 5), o_add, o_ald4 31, o_callI 140 6 10, o_ald 2, o_ald 0, o_ild 3, o_ic (nI 1), o_add, o_ald4 31, o_ald 0, o_ild 3, o_ic (nI 2), o_add, o_ald4 31, o_ald 0, o_ild 3, o_ic (nI 3), o_add, o_ald4 31, o_ald 0, o_ild 3, o_ic (nI 4), o_add, o_ald4 31, o_ald 0, o_ild 3, o_ic (nI 5), o_add, o_ald4 31, o_callI 253 6 11, o_ceq 1185, o_ic (nI 0), o_zret, o_ald 1, o_ald 0, o_ild 3, o_ic (nI 1), o_add, o_ald4 31, o_ald 0, o_ild 3, o_ic (nI 2), o_add, o_ald4 31, o_callI 141 3 10, o_ald 2, o_ald 0, o_ild 3, o_ic (nI 1), o_add, o_ald4 31, o_ald 0, o_ild 3, o_ic (nI 2), o_add, o_ald4 31, o_callI 255 3 11, o_ceq 1185, o_ic (nI 0), o_zret, o_ald 1, o_ald 0, o_ild 3, o_ic (nI 1), o_add, o_ald4 31, o_ald 0, o_ild 3, o_ic (nI 2), o_add, o_ald4 31, o_ald 0, o_ild 3, o_ic (nI 3), o_add, o_ald4 31, o_callI 142 4 10, o_ald 2, o_ald 0, o_ild 3, o_ic (nI 1), o_add, o_ald4 31, o_ald 0, o_ild 3, o_ic (nI 2), o_add, o_ald4 31, o_ald 0, o_ild 3, o_ic (nI 3), o_add, o_ald4 31, o_callI 259 4 11, o_ceq 1185, o_ic (nI 0), o_zret, o_ald 1, o_ald 0, o_ild 3, o_ic (nI 1), o_add, o_ald4 31, o_ald 0, o_ild 3, o_ic (nI 2), o_add, o_ald4 31, o_callI 143 3 10, o_ald 2, o_ald 0, o_ild 3, o_ic (nI 1), o_add, o_ald4 31, o_ald 0, o_ild 3, o_ic (nI 2), o_add, o_ald4 31, o_callI 254 3 11, o_ceq 1185, o_ic (nI 0), o_zret, o_ald 1, o_ald 0, o_ild 3, o_ic (nI 1), o_add, o_ald4 31, o_ald 0, o_ild 3, o_ic (nI 2), o_add, o_ald4 31, o_ald 0, o_ild 3, o_ic (nI 3), o_add, o_ald4 31, o_callI 144 4 10, o_ald 2, o_ald 0, o_ild 3, o_ic (nI 1), o_add, o_ald4 31, o_ald 0, o_ild 3, o_ic (nI 2), o_add, o_ald4 31, o_ald 0, o_ild 3, o_ic (nI 3), o_add, o_ald4 31, o_callI 267 4 11, o_ceq 1185, o_ic (nI 0), o_zret, o_ald 1, o_ald 0, o_ild 3, o_ic (nI 1), o_add, o_ald4 31, o_ald 0, o_ild 3, o_ic (nI 2), o_add, o_ald4 31, o_callI 145 3 10, o_ald 2, o_ald 0, o_ild 3, o_ic (nI 1), o_add, o_ald4 31, o_ald 0, o_ild 3, o_ic (nI 2), o_add, o_ald4 31, o_callI 268 3 11, o_ceq 1185, o_ic (nI 0), o_zret, o_ald 1, o_ald 0, o_ild 3, o_ic (nI 1), o_add, o_ald4 31, o_ald 0, o_ild 3, o_ic (nI 2), o_add, o_ald4 31, o_callI 146 3 10, o_ald 2, o_ald 0, o_ild 3, o_ic (nI 1), o_add, o_ald4 31, o_ald 0, o_ild 3, o_ic (nI 2), o_add, o_ald4 31, o_callI 269 3 11, o_ceq 1185, o_ic (nI 0), o_zret, o_ald 1, o_ald 0, o_ild 3, o_ic (nI 1), o_add, o_ald4 31, o_ald 0, o_ild 3, o_ic (nI 2), o_add, o_ald4 31, o_callI 147 3 10, o_ald 2, o_ald 0, o_ild 3, o_ic (nI 1), o_add, o_ald4 31, o_ald 0, o_ild 3, o_ic (nI 2), o_add, o_ald4 31, o_callI 272 3 11, o_ceq 1185, o_ic (nI 0), o_zret, o_ald 1, o_ald 0, o_ild 3, o_ic (nI 1), o_add, o_ald4 31, o_callI 148 2 10, o_ald 2, o_ald 0, o_ild 3, o_ic (nI 1), o_add, o_ald4 31, o_callI 273 2 11, o_ceq 1185, o_ic (nI 0), o_zret, o_ald 1, o_callI 149 1 10, o_ald 2, o_callI 274 1 11, o_ceq 1185, o_ic (nI 0), o_zret, o_ald 1, o_ald 0, o_ild 3, o_ic (nI 1), o_add, o_ald4 31, o_callI 150 2 10, o_ald 2, o_ald 0, o_ild 3, o_ic (nI 1), o_add, o_ald4 31, o_callI 275 2 11, o_ceq 1185, o_ic (nI 0), o_zret, o_ald 1, o_callI 151 1 10, o_ald 2, o_callI 280 1 11, o_ceq 1185, o_ic (nI 0), o_zret, o_ald 1, o_ald 0, o_ild 3, o_ic (nI 1), o_add, o_ald4 31, o_ald 0, o_ild 3, o_ic (nI 2), o_add, o_ald4 31, o_callI 152 3 10, o_ald 2, o_ald 0, o_ild 3, o_ic (nI 1), o_add, o_ald4 31, o_ald 0, o_ild 3, o_ic (nI 2), o_add, o_ald4 31, o_callI 281 3 11, o_ceq 1185, o_ic (nI 0), o_zret, o_ald 1, o_ald 0, o_ild 3, o_ic (nI 1), o_add, o_ald4 31, o_callI 153 2 10, o_ald 2, o_ald 0, o_ild 3, o_ic (nI 1), o_add, o_ald4 31, o_callI 282 2 11, o_ceq 1185, o_ic (nI 0), o_zret, o_ald 1, o_ald 0, o_ild 3, o_ic (nI 1), o_add, o_ald4 31, o_ald 0, o_ild 3, o_ic (nI 2), o_add, o_ald4 31, o_callI 154 3 10, o_ald 2, o_ald 0, o_ild 3, o_ic (nI 1), o_add, o_ald4 31, o_ald 0, o_ild 3, o_ic (nI 2), o_add, o_ald4 31, o_callI 289 3 11, o_ceq 1185, o_ic (nI 0), o_zret, o_ald 1, o_ald 0, o_ild 3, o_ic (nI 1), o_add, o_ald4 31, o_ald 0, o_ild 3, o_ic (nI 2), o_add, o_ald4 31, o_callI 155 3 10, o_ald 2, o_ald 0, o_ild 3, o_ic (nI 1), o_add, o_ald4 31, o_ald 0, o_ild 3, o_ic (nI 2), o_add, o_ald4 31, o_callI 290 3 11, o_ceq 1185, o_ic (nI 0), o_zret, o_ald 1, o_ald 0, o_ild 3, o_ic (nI 1), o_add, o_ald4 31, o_ald 0, o_ild 3, o_ic (nI 2), o_add, o_ald4 31, o_callI 156 3 10, o_ald 2, o_ald 0, o_ild 3, o_ic (nI 1), o_add, o_ald4 31, o_ald 0, o_ild 3, o_ic (nI 2), o_add, o_ald4 31, o_callI 285 3 11, o_ceq 1185, o_ic (nI 0), o_zret, o_ald 1, o_ald 0, o_ild 3, o_ic (nI 1), o_add, o_ald4 31, o_ald 0, o_ild 3, o_ic (nI 2), o_add, o_ald4 31, o_callI 157 3 10, o_ald 2, o_ald 0, o_ild 3, o_ic (nI 1), o_add, o_ald4 31, o_ald 0, o_ild 3, o_ic (nI 2), o_add, o_ald4 31, o_callI 287 3 11, o_ceq 1185, o_ic (nI 0), o_zret, o_ald 1, o_ald 0, o_ild 3, o_ic (nI 1), o_add, o_ald4 31, o_ald 0, o_ild 3, o_ic (nI 2), o_add, o_ald4 31, o_callI 158 3 10, o_ald 2, o_ald 0, o_ild 3, o_ic (nI 1), o_add, o_ald4 31, o_ald 0, o_ild 3, o_ic (nI 2), o_add, o_ald4 31, o_callI 286 3 11, o_ceq 1185, o_ic (nI 0), o_zret, o_ald 1, o_ald 0, o_ild 3, o_ic (nI 1), o_add, o_ald4 31, o_ald 0, o_ild 3, o_ic (nI 2), o_add, o_ald4 31, o_callI 159 3 10, o_ald 2, o_ald 0, o_ild 3, o_ic (nI 1), o_add, o_ald4 31, o_ald 0, o_ild 3, o_ic (nI 2), o_add, o_ald4 31, o_callI 293 3 11, o_ceq 1185, o_ic (nI 0), o_zret, o_ald 1, o_ald 0, o_ild 3, o_ic (nI 1), o_add, o_ald4 31, o_callI 160 2 10, o_ald 2, o_ald 0, o_ild 3, o_ic (nI 1), o_add, o_ald4 31, o_callI 295 2 11, o_ceq 1185, o_ic (nI 0), o_zret, o_ald 1, o_ald 0, o_ild 3, o_ic (nI 1), o_add, o_ald4 31, o_ald 0, o_ild 3, o_ic (nI 2), o_add, o_ald4 31, o_callI 161 3 10, o_ald 2, o_ald 0, o_ild 3, o_ic (nI 1), o_add, o_ald4 31, o_ald 0, o_ild 3, o_ic (nI 2), o_add, o_ald4 31, o_callI 297 3 11, o_ceq 1185, o_ic (nI 0), o_zret, o_ald 1, o_ald 0, o_ild 3, o_ic (nI 1), o_add, o_ald4 31, o_callI 162 2 10, o_ald 2, o_ald 0, o_ild 3, o_ic (nI 1), o_add, o_ald4 31, o_callI 301 2 11, o_ceq 1185, o_ic (nI 0), o_zret, o_ald 1, o_ald 0, o_ild 3, o_ic (nI 1), o_add, o_ald4 31, o_callI 163 2 10, o_ald 2, o_ald 0, o_ild 3, o_ic (nI 1), o_add, o_ald4 31, o_callI 302 2 11, o_ceq 1185, o_ic (nI 0), o_zret, o_ald 1, o_ald 0, o_ild 3, o_ic (nI 1), o_add, o_ald4 31, o_callI 164 2 10, o_ald 2, o_ald 0, o_ild 3, o_ic (nI 1), o_add, o_ald4 31, o_callI 303 2 11, o_ceq 1185, o_ic (nI 0), o_zret, o_ald 1, o_ald 0, o_ild 3, o_ic (nI 1), o_add, o_ald4 31, o_ald 0, o_ild 3, o_ic (nI 2), o_add, o_ald4 31, o_callI 165 3 10, o_ald 2, o_ald 0, o_ild 3, o_ic (nI 1), o_add, o_ald4 31, o_ald 0, o_ild 3, o_ic (nI 2), o_add, o_ald4 31, o_callI 305 3 11, o_ceq 1185, o_ic (nI 0), o_zret, o_ald 1, o_ald 0, o_ild 3, o_ic (nI 1), o_add, o_ald4 31, o_callI 166 2 10, o_ald 2, o_ald 0, o_ild 3, o_ic (nI 1), o_add, o_ald4 31, o_callI 306 2 11, o_ceq 1185, o_ic (nI 0), o_zret, o_ald 1, o_callI 167 1 10, o_ald 2, o_callI 307 1 11, o_ceq 1185, o_ic (nI 0), o_zret, o_ald 1, o_ald 0, o_ild 3, o_ic (nI 1), o_add, o_ald4 31, o_callI 168 2 10, o_ald 2, o_ald 0, o_ild 3, o_ic (nI 1), o_add, o_ald4 31, o_callI 230 2 11, o_ceq 1185, o_ic (nI 0), o_zret, o_ald 1, o_ald 0, o_ild 3, o_ic (nI 1), o_add, o_ald4 31, o_callI 169 2 10, o_ald 2, o_ald 0, o_ild 3, o_ic (nI 1), o_add, o_ald4 31, o_callI 231 2 11, o_ceq 1185, o_ic (nI 0), o_zret, o_ald 1, o_ald 0, o_ild 3, o_ic (nI 1), o_add, o_ald4 31, o_callI 170 2 10, o_ald 2, o_ald 0, o_ild 3, o_ic (nI 1), o_add, o_ald4 31, o_callI 232 2 11, o_ceq 1185, o_ic (nI 0), o_zret, o_ald 1, o_ald 0, o_ild 3, o_ic (nI 1), o_add, o_ald4 31, o_callI 171 2 10, o_ald 2, o_ald 0, o_ild 3, o_ic (nI 1), o_add, o_ald4 31, o_callI 308 2 11, o_ceq 1185, o_ic (nI 0), o_zret, o_inc 3 (nI 6), o_goto 10, o_ic (nI 1), o_zret] := mA (i := 300) (ok_ceq (off := 1103) (pc := 598) (tgt := 1701) rfl rfl rfl (by decide +kernel) (by decide +kernel)) (
  mA (i := 301) (ok_ic (n := 0) (pc := 601) (by decide +kernel) rfl rfl (by decide +kernel)) (
  mA (i := 302) (ok_zret (pc := 602) rfl rfl (by decide +kernel)) (
  mA (i := 303) (ok_ald_n (f := 1) (pc := 603) rfl rfl rfl (by decide +kernel)) (
  mA (i := 304) (ok_ald_n (f := 0) (pc := 604) rfl rfl rfl (by decide +kernel)) (
  mA (i := 305) (ok_ild_n (f := 3) (pc := 605) rfl rfl rfl (by decide +kernel)) (
  mA (i := 306) (ok_ic (n := 1) (pc := 606) (by decide +kernel) rfl rfl (by decide +kernel)) (
  mA (i := 307) (ok_add (pc := 607) rfl rfl (by decide +kernel)) (
  mA (i := 308) (ok_sald (pc := 608) rfl rfl (by decide +kernel)) (
  mA (i := 309) (ok_ald_n (f := 0) (pc := 609) rfl rfl rfl (by decide +kernel)) (
  mA (i := 310) (ok_ild_n (f := 3) (pc := 610) rfl rfl rfl (by decide +kernel)) (
  mA (i := 311) (ok_ic (n := 2) (pc := 611) (by decide +kernel) rfl rfl (by decide +kernel)) (
  mA (i := 312) (ok_add (pc := 612) rfl rfl (by decide +kernel)) (
  mA (i := 313) (ok_sald (pc := 613) rfl rfl (by decide +kernel)) (
  mA (i := 314) (ok_callI (pc := 614) (can_V cal_C_condensed (by decide +kernel) rfl (by decide +kernel) rfl wd_920 wd_921 wd_922 wd_35 (by decide +kernel)) rfl rfl) (
  mA (i := 315) (ok_ald_n (f := 2) (pc := 617) rfl rfl rfl (by decide +kernel)) (
  mA (i := 316) (ok_ald_n (f := 0) (pc := 618) rfl rfl rfl (by decide +kernel)) (
  mA (i := 317) (ok_ild_n (f := 3) (pc := 619) rfl rfl rfl (by decide +kernel)) (
  mA (i := 318) (ok_ic (n := 1) (pc := 620) (by decide +kernel) rfl rfl (by decide +kernel)) (
  mA (i := 319) (ok_add (pc := 621) rfl rfl (by decide +kernel)) (
  mA (i := 320) (ok_sald (pc := 622) rfl rfl (by decide +kernel)) (
  mA (i := 321) (ok_ald_n (f := 0) (pc := 623) rfl rfl rfl (by decide +kernel)) (
  mA (i := 322) (ok_ild_n (f := 3) (pc := 624) rfl rfl rfl (by decide +kernel)) (
  mA (i := 323) (ok_ic (n := 2) (pc := 625) (by decide +kernel) rfl rfl (by decide +kernel)) (
  mA (i := 324) (ok_add (pc := 626) rfl rfl (by decide +kernel)) (
  mA (i := 325) (ok_sald (pc := 627) rfl rfl (by decide +kernel)) (
  mA (i := 326) (ok_callI (pc := 628) (can_V cal_N_condensed (by decide +kernel) rfl (by decide +kernel) rfl wd_923 wd_924 wd_925 wd_605 (by decide +kernel)) rfl rfl) (
  mA (i := 327) (ok_ceq (off := 1070) (pc := 631) (tgt := 1701) rfl rfl rfl (by decide +kernel) (by decide +kernel)) (
  mA (i := 328) (ok_ic (n := 0) (pc := 634) (by decide +kernel) rfl rfl (by decide +kernel)) (
  mA (i := 329) (ok_zret (pc := 635) rfl rfl (by decide +kernel)) (
  mA (i := 330) (ok_ald_n (f := 1) (pc := 636) rfl rfl rfl (by decide +kernel)) (
  mA (i := 331) (ok_ald_n (f := 0) (pc := 637) rfl rfl rfl (by decide +kernel)) (
  mA (i := 332) (ok_ild_n (f := 3) (pc := 638) rfl rfl rfl (by decide +kernel)) (
  mA (i := 333) (ok_ic (n := 1) (pc := 639) (by decide +kernel) rfl rfl (by decide +kernel)) (
  mA (i := 334) (ok_add (pc := 640) rfl rfl (by decide +kernel)) (
  mA (i := 335) (ok_sald (pc := 641) rfl rfl (by decide +kernel)) (
  mA (i := 336) (ok_ald_n (f := 0) (pc := 642) rfl rfl rfl (by decide +kernel)) (
  mA (i := 337) (ok_ild_n (f := 3) (pc := 643) rfl rfl rfl (by decide +kernel)) (
  mA (i := 338) (ok_ic (n := 2) (pc := 644) (by decide +kernel) rfl rfl (by decide +kernel)) (
  mA (i := 339) (ok_add (pc := 645) rfl rfl (by decide +kernel)) (
  mA (i := 340) (ok_sald (pc := 646) rfl rfl (by decide +kernel)) (
  mA (i := 341) (ok_ald_n (f := 0) (pc := 647) rfl rfl rfl (by decide +kernel)) (
  mA (i := 342) (ok_ild_n (f := 3) (pc := 648) rfl rfl rfl (by decide +kernel)) (
  mA (i := 343) (ok_ic (n := 3) (pc := 649) (by decide +kernel) rfl rfl (by decide +kernel)) (
  mA (i := 344) (ok_add (pc := 650) rfl rfl (by decide +kernel)) (
  mA (i := 345) (ok_sald (pc := 651) rfl rfl (by decide +kernel)) (
  mA (i := 346) (ok_callI (pc := 652) (can_V cal_C_covers (by decide +kernel) rfl (by decide +kernel) rfl wd_926 wd_927 wd_928 wd_35 (by decide +kernel)) rfl rfl) (
  mA (i := 347) (ok_ald_n (f := 2) (pc := 655) rfl rfl rfl (by decide +kernel)) (
  mA (i := 348) (ok_ald_n (f := 0) (pc := 656) rfl rfl rfl (by decide +kernel)) (
  mA (i := 349) (ok_ild_n (f := 3) (pc := 657) rfl rfl rfl (by decide +kernel)) (
  mA (i := 350) (ok_ic (n := 1) (pc := 658) (by decide +kernel) rfl rfl (by decide +kernel)) (
  mA (i := 351) (ok_add (pc := 659) rfl rfl (by decide +kernel)) (
  mA (i := 352) (ok_sald (pc := 660) rfl rfl (by decide +kernel)) (
  mA (i := 353) (ok_ald_n (f := 0) (pc := 661) rfl rfl rfl (by decide +kernel)) (
  mA (i := 354) (ok_ild_n (f := 3) (pc := 662) rfl rfl rfl (by decide +kernel)) (
  mA (i := 355) (ok_ic (n := 2) (pc := 663) (by decide +kernel) rfl rfl (by decide +kernel)) (
  mA (i := 356) (ok_add (pc := 664) rfl rfl (by decide +kernel)) (
  mA (i := 357) (ok_sald (pc := 665) rfl rfl (by decide +kernel)) (
  mA (i := 358) (ok_ald_n (f := 0) (pc := 666) rfl rfl rfl (by decide +kernel)) (
  mA (i := 359) (ok_ild_n (f := 3) (pc := 667) rfl rfl rfl (by decide +kernel)) (
  ok_Lw_law_t360))))))))))))))))))))))))))))))))))))))))))))))))))))))))))))
set_option maxRecDepth 20000 in
theorem ok_Lw_law_t240 : mAll (mOk RL cL_law 4 true false (some .boolean) (mnat p_Lw_law)) 240 [o_ic (nI 0), o_zret, o_ald 1, o_ald 0, o_ild 3, o_ic (nI 1), o_add, o_ald4 31, o_ald 0, o_ild 3, o_ic (nI 2), o_add, o_ald4 31, o_callI 133 3 10, o_ald 2, o_ald 0, o_ild 3, o_ic (nI 1), o_add, o_ald4 31, o_ald 0, o_ild 3, o_ic (nI 2), o_add, o_ald4 31, o_callI 235 3 11, o_ceq 1185, o_ic (nI 0), o_zret, o_ald 1, o_ald 0, o_ild 3, o_ic (nI 1), o_add, o_ald4 31, o_callI 134 2 10, o_ald 2, o_ald 0, o_ild 3, o_ic (nI 1), o_add, o_ald4 31, o_callI 238 2 11, o_ceq 1185, o_ic (nI 0), o_zret, o_ald 1, o_ald 0, o_ild 3, o_ic (nI 1), o_add, o_ald4 31, o_callI 135 2 10, o_ald 2, o_ald 0, o_ild 3, o_ic (nI 1), o_add, o_ald4 31, o_callI 240 2 11, o_ceq 1185, o_ic (nI 0), o_zret, o_ald 1, o_ald 0, o_ild 3, o_ic (nI 1), o_add, o_ald4 31, o_ald 0, o_ild 3, o_ic (nI 2), o_add, o_ald4 31, o_callI 136 3 10, o_ald 2, o_ald 0, o_ild 3, o_ic (nI 1), o_add, o_ald4 31, o_ald 0, o_ild 3, o_ic (nI 2), o_add, o_ald4 31, o_callI 261 3 11, o_ceq 1185, o_ic (nI 0), o_zret, o_ald 1, o_ald 0, o_ild 3, o_ic (nI 1), o_add, o_ald4 31, o_ald 0, o_ild 3, o_ic (nI 2), o_add, o_ald4 31, o_ald 0, o_ild 3, o_ic (nI 3), o_add, o_ald4 31, o_callI 137 4 10, o_ald 2, o_ald 0, o_ild 3, o_ic (nI 1), o_add, o_ald4 31, o_ald 0, o_ild 3, o_ic (nI 2), o_add, o_ald4 31, o_ald 0, o_ild 3, o_ic (nI 3), o_add, o_ald4 31, o_callI 250 4 11, o_ceq 1185, o_ic (nI 0), o_zret, o_ald 1, o_ald 0, o_ild 3, o_ic (nI 1), o_add, o_ald4 31, o_ald 0, o_ild 3, o_ic (nI 2), o_add, o_ald4 31, o_ald 0, o_ild 3, o_ic (nI 3), o_add, o_ald4 31, o_callI 138 4 10, o_ald 2, o_ald 0, o_ild 3, o_ic (nI 1), o_add, o_ald4 31, o_ald 0, o_ild 3, o_ic (nI 2), o_add, o_ald4 31, o_ald 0, o_ild 3, o_ic (nI 3), o_add, o_ald4 31, o_callI 251 4 11, o_ceq 1185, o_ic (nI 0), o_zret, o_ald 1, o_ald 0, o_ild 3, o_ic (nI 1), o_add, o_ald4 31, o_ald 0, o_ild 3, o_ic (nI 2), o_add, o_ald4 31, o_ald 0, o_ild 3, o_ic (nI 3), o_add, o_ald4 31, o_ald 0, o_ild 3, o_ic (nI 4), o_add, o_ald4 31, o_callI 139 5 10, o_ald 2, o_ald 0, o_ild 3, o_ic (nI 1), o_add, o_ald4 31, o_ald 0, o_ild 3, o_ic (nI 2), o_add, o_ald4 31, o_ald 0, o_ild 3, o_ic (nI 3), o_add, o_ald4 31, o_ald 0, o_ild 3, o_ic (nI 4), o_add, o_ald4 31, o_callI 252 5 11, o_ceq 1185, o_ic (nI 0), o_zret, o_ald 1, o_ald 0, o_ild 3, o_ic (nI 1), o_add, o_ald4 31, o_ald 0, o_ild 3, o_ic (nI 2), o_add, o_ald4 31, o_ald 0, o_ild 3, o_ic (nI 3), o_add, o_ald4 31, o_ald 0, o_ild 3, o_ic (nI 4), o_add, o_ald4 31, o_ald 0, o_ild 3, o_ic (nI 5), o_add, o_ald4 31, o_callI 140 6 10, o_ald 2, o_ald 0, o_ild 3, o_ic (nI 1), o_add, o_ald4 31, o_ald 0, o_ild 3, o_ic (nI 2), o_add, o_ald4 31, o_ald 0, o_ild 3, o_ic (nI 3), o_add, o_ald4 31, o_ald 0, o_ild 3, o_ic (nI 4), o_add, o_ald4 31, o_ald 0, o_ild 3, o_ic (nI 5), o_add, o_ald4 31, o_callI 253 6 11, o_ceq 1185, o_ic (nI 0), o_zret, o_ald 1, o_ald 0, o_ild 3, o_ic (nI 1), o_add, o_ald4 31, o_ald 0, o_ild 3, o_ic (nI 2), o_add, o_ald4 31, o_callI 141 3 10, o_ald 2, o_ald 0, o_ild 3, o_ic (nI 1), o_add, o_ald4 31, o_ald 0, o_ild 3, o_ic (nI 2), o_add, o_ald4 31, o_callI 255 3 11, o_ceq 1185, o_ic (nI 0), o_zret, o_ald 1, o_ald 0, o_ild 3, o_ic (nI 1), o_add, o_ald4 31, o_ald 0, o_ild 3, o_ic (nI 2), o_add, o_ald4 31, o_ald 0, o_ild 3, o_ic (nI 3), o_add, o_ald4 31, o_callI 142 4 10, o_ald 2, o_ald 0, o_ild 3, o_ic (nI 1), o_add, o_ald4 31, o_ald 0, o_ild 3, o_ic (nI 2), o_add, o_ald4 31, o_ald 0, o_ild 3, o_ic (nI 3), o_add, o_ald4 31, o_callI 259 4 11, o_ceq 1185, o_ic (nI 0), o_zret, o_ald 1, o_ald 0, o_ild 3, o_ic (nI 1), o_add, o_ald4 31, o_ald 0, o_ild 3, o_ic (nI 2), o_add, o_ald4 31, o_callI 143 3 10, o_ald 2, o_ald 0, o_ild 3, o_ic (nI 1), o_add, o_ald4 31, o_ald 0, o_ild 3, o_ic (nI 2), o_add, o_ald4 31, o_callI 254 3 11, o_ceq 1185, o_ic (nI 0), o_zret, o_ald 1, o_ald 0, o_ild 3, o_ic (nI 1), o_add, o_ald4 31, o_ald 0, o_ild 3, o_ic (nI 2), o_add, o_ald4 31, o_ald 0, o_ild 3, o_ic (nI 3), o_add, o_ald4 31, o_callI 144 4 10, o_ald 2, o_ald 0, o_ild 3, o_ic (nI 1), o_add, o_ald4 31, o_ald 0, o_ild 3, o_ic (nI 2), o_add, o_ald4 31, o_ald 0, o_ild 3, o_ic (nI 3), o_add, o_ald4 31, o_callI 267 4 11, o_ceq 1185, o_ic (nI 0), o_zret, o_ald 1, o_ald 0, o_ild 3, o_ic (nI 1), o_add, o_ald4 31, o_ald 0, o_ild 3, o_ic (nI 2), o_add, o_ald4 31, o_callI 145 3 10, o_ald 2, o_ald 0, o_ild 3, o_ic (nI 1), o_add, o_ald4 31, o_ald 0, o_ild 3, o_ic (nI 2), o_add, o_ald4 31, o_callI 268 3 11, o_ceq 1185, o_ic (nI 0), o_zret, o_ald 1, o_ald 0, o_ild 3, o_ic (nI 1), o_add, o_ald4 31, o_ald 0, o_ild 3, o_ic (nI 2), o_add, o_ald4 31, o_callI 146 3 10, o_ald 2, o_ald 0, o_ild 3, o_ic (nI 1), o_add, o_ald4 31, o_ald 0, o_ild 3, o_ic (nI 2), o_add, o_ald4 31, o_callI 269 3 11, o_ceq 1185, o_ic (nI 0), o_zret, o_ald 1, o_ald 0, o_ild 3, o_ic (nI 1), o_add, o_ald4 31, o_ald 0, o_ild 3, o_ic (nI 2), o_add, o_ald4 31, o_callI 147 3 10, o_ald 2, o_ald 0, o_ild 3, o_ic (nI 1), o_add, o_ald4 31, o_ald 0, o_ild 3, o_ic (nI 2), o_add, o_ald4 31, o_callI 272 3 11, o_ceq 1185, o_ic (nI 0), o_zret, o_ald 1, o_ald 0, o_ild 3, o_ic (nI 1), o_add, o_ald4 31, o_callI 148 2 10, o_ald 2, o_ald 0, o_ild 3, o_ic (nI 1), o_add, o_ald4 31, o_callI 273 2 11, o_ceq 1185, o_ic (nI 0), o_zret, o_ald 1, o_callI 149 1 10, o_ald 2, o_callI 274 1 11, o_ceq 1185, o_ic (nI 0), o_zret, o_ald 1, o_ald 0, o_ild 3, o_ic (nI 1), o_add, o_ald4 31, o_callI 150 2 10, o_ald 2, o_ald 0, o_ild 3, o_ic (nI 1), o_add, o_ald4 31, o_callI 275 2 11, o_ceq 1185, o_ic (nI 0), o_zret, o_ald 1, o_callI 151 1 10, o_ald 2, o_callI 280 1 11, o_ceq 1185, o_ic (nI 0), o_zret, o_ald 1, o_ald 0, o_ild 3, o_ic (nI 1), o_add, o_ald4 31, o_ald 0, o_ild 3, o_ic (nI 2), o_add, o_ald4 31, o_callI 152 3 10, o_ald 2, o_ald 0, o_ild 3, o_ic (nI 1), o_add, o_ald4 31, o_ald 0, o_ild 3, o_ic (nI 2), o_add, o_ald4 31, o_callI 281 3 11, o_ceq 1185, o_ic (nI 0), o_zret, o_ald 1, o_ald 0, o_ild 3, o_ic (nI 1), o_add, o_ald4 31, o_callI 153 2 10, o_ald 2, o_ald 0, o_ild 3, o_ic (nI 1), o_add, o_ald4 31, o_callI 282 2 11, o_ceq 1185, o_ic (nI 0), o_zret, o_ald 1, o_ald 0, o_ild 3, o_ic (nI 1), o_add, o_ald4 31, o_ald 0, o_ild 3, o_ic (nI 2), o_add, o_ald4 31, o_callI 154 3 10, o_ald 2, o_ald 0, o_ild 3, o_ic (nI 1), o_add, o_ald4 31, o_ald 0, o_ild 3, o_ic (nI 2), o_add, o_ald4 31, o_callI 289 3 11, o_ceq 1185, o_ic (nI 0), o_zret, o_ald 1, o_ald 0, o_ild 3, o_ic (nI 1), o_add, o_ald4 31, o_ald 0, o_ild 3, o_ic (nI 2), o_add, o_ald4 31, o_callI 155 3 10, o_ald 2, o_ald 0, o_ild 3, o_ic (nI 1), o_add, o_ald4 31, o_ald 0, o_ild 3, o_ic (nI 2), o_add, o_ald4 31, o_callI 290 3 11, o_ceq 1185, o_ic (nI 0), o_zret, o_ald 1, o_ald 0, o_ild 3, o_ic (nI 1), o_add, o_ald4 31, o_ald 0, o_ild 3, o_ic (nI 2), o_add, o_ald4 31, o_callI 156 3 10, o_ald 2, o_ald 0, o_ild 3, o_ic (nI 1), o_add, o_ald4 31, o_ald 0, o_ild 3, o_ic (nI 2), o_add, o_ald4 31, o_callI 285 3 11, o_ceq 1185, o_ic (nI 0), o_zret, o_ald 1, o_ald 0, o_ild 3, o_ic (nI 1), o_add, o_ald4 31, o_ald 0, o_ild 3, o_ic (nI 2), o_add, o_ald4 31, o_callI 157 3 10, o_ald 2, o_ald 0, o_ild 3, o_ic (nI 1), o_add, o_ald4 31, o_ald 0, o_ild 3, o_ic (nI 2), o_add, o_ald4 31, o_callI 287 3 11, o_ceq 1185, o_ic (nI 0), o_zret, o_ald 1, o_ald 0, o_ild 3, o_ic (nI 1), o_add, o_ald4 31, o_ald 0, o_ild 3, o_ic (nI 2), o_add, o_ald4 31, o_callI 158 3 10, o_ald 2, o_ald 0, o_ild 3, o_ic (nI 1), o_add, o_ald4 31, o_ald 0, o_ild 3, o_ic (nI 2), o_add, o_ald4 31, o_callI 286 3 11, o_ceq 1185, o_ic (nI 0), o_zret, o_ald 1, o_ald 0, o_ild 3, o_ic (nI 1), o_add, o_ald4 31, o_ald 0, o_ild 3, o_ic (nI 2), o_add, o_ald4 31, o_callI 159 3 10, o_ald 2, o_ald 0, o_ild 3, o_ic (nI 1), o_add, o_ald4 31, o_ald 0, o_ild 3, o_ic (nI 2), o_add, o_ald4 31, o_callI 293 3 11, o_ceq 1185, o_ic (nI 0), o_zret, o_ald 1, o_ald 0, o_ild 3, o_ic (nI 1), o_add, o_ald4 31, o_callI 160 2 10, o_ald 2, o_ald 0, o_ild 3, o_ic (nI 1), o_add, o_ald4 31, o_callI 295 2 11, o_ceq 1185, o_ic (nI 0), o_zret, o_ald 1, o_ald 0, o_ild 3, o_ic (nI 1), o_add, o_ald4 31, o_ald 0, o_ild 3, o_ic (nI 2), o_add, o_ald4 31, o_callI 161 3 10, o_ald 2, o_ald 0, o_ild 3, o_ic (nI 1), o_add, o_ald4 31, o_ald 0, o_ild 3, o_ic (nI 2), o_add, o_ald4 31, o_callI 297 3 11, o_ceq 1185, o_ic (nI 0), o_zret, o_ald 1, o_ald 0, o_ild 3, o_ic (nI 1), o_add, o_ald4 31, o_callI 162 2 10, o_ald 2, o_ald 0, o_ild 3, o_ic (nI 1), o_add, o_ald4 31, o_callI 301 2 11, o_ceq 1185, o_ic (nI 0), o_zret, o_ald 1, o_ald 0, o_ild 3, o_ic (nI 1), o_add, o_ald4 31, o_callI 163 2 10, o_ald 2, o_ald 0, o_ild 3, o_ic (nI 1), o_add, o_ald4 31, o_callI 302 2 11, o_ceq 1185, o_ic (nI 0), o_zret, o_ald 1, o_ald 0, o_ild 3, o_ic (nI 1), o_add, o_ald4 31, o_callI 164 2 10, o_ald 2, o_ald 0, o_ild 3, o_ic (nI 1), o_add, o_ald4 31, o_callI 303 2 11, o_ceq 1185, o_ic (nI 0), o_zret, o_ald 1, o_ald 0, o_ild 3, o_ic (nI 1), o_add, o_ald4 31, o_ald 0, o_ild 3, o_ic (nI 2), o_add, o_ald4 31, o_callI 165 3 10, o_ald 2, o_ald 0, o_ild 3, o_ic (nI 1), o_add, o_ald4 31, o_ald 0, o_ild 3, o_ic (nI 2), o_add, o_ald4 31, o_callI 305 3 11, o_ceq 1185, o_ic (nI 0), o_zret, o_ald 1, o_ald 0, o_ild 3, o_ic (nI 1), o_add, o_ald4 31, o_callI 166 2 10, o_ald 2, o_ald 0, o_ild 3, o_ic (nI 1), o_add, o_ald4 31, o_callI 306 2 11, o_ceq 1185, o_ic (nI 0), o_zret, o_ald 1, o_callI 167 1 10, o_ald 2, o_callI 307 1 11, o_ceq 1185, o_ic (nI 0), o_zret, o_ald 1, o_ald 0, o_ild 3, o_ic (nI 1), o_add, o_ald4 31, o_callI 168 2 10, o_ald 2, o_ald 0, o_ild 3, o_ic (nI 1), o_add, o_ald4 31, o_callI 230 2 11, o_ceq 1185, o_ic (nI 0), o_zret, o_ald 1, o_ald 0, o_ild 3, o_ic (nI 1), o_add, o_ald4 31, o_callI 169 2 10, o_ald 2, o_ald 0, o_ild 3, o_ic (nI 1), o_add, o_ald4 31, o_callI 231 2 11, o_ceq 1185, o_ic (nI 0), o_zret, o_ald 1, o_ald 0, o_ild 3, o_ic (nI 1), o_add, o_ald4 31, o_callI 170 2 10, o_ald 2, o_ald 0, o_ild 3, o_ic (nI 1), o_add, o_ald4 31, o_callI 232 2 11, o_ceq 1185, o_ic (nI 0), o_zret, o_ald 1, o_ald 0, o_ild 3, o_ic (nI 1), o_add, o_ald4 31, o_callI 171 2 10, o_ald 2, o_ald 0, o_ild 3, o_ic (nI 1), o_add, o_ald4 31, o_callI 308 2 11, o_ceq 1185, o_ic (nI 0), o_zret, o_inc 3 (nI 6), o_goto 10, o_ic (nI 1), o_zret] := mA (i := 240) (ok_ic (n := 0) (pc := 522) (by decide +kernel) rfl rfl (by decide +kernel)) (
  mA (i := 241) (ok_zret (pc := 523) rfl rfl (by decide +kernel)) (
  mA (i := 242) (ok_ald_n (f := 1) (pc := 524) rfl rfl rfl (by decide +kernel)) (
  mA (i := 243) (ok_ald_n (f := 0) (pc := 525) rfl rfl rfl (by decide +kernel)) (
  mA (i := 244) (ok_ild_n (f := 3) (pc := 526) rfl rfl rfl (by decide +kernel)) (
  mA (i := 245) (ok_ic (n := 1) (pc := 527) (by decide +kernel) rfl rfl (by decide +kernel)) (
  mA (i := 246) (ok_add (pc := 528) rfl rfl (by decide +kernel)) (
  mA (i := 247) (ok_sald (pc := 529) rfl rfl (by decide +kernel)) (
  mA (i := 248) (ok_ald_n (f := 0) (pc := 530) rfl rfl rfl (by decide +kernel)) (
  mA (i := 249) (ok_ild_n (f := 3) (pc := 531) rfl rfl rfl (by decide +kernel)) (
  mA (i := 250) (ok_ic (n := 2) (pc := 532) (by decide +kernel) rfl rfl (by decide +kernel)) (
  mA (i := 251) (ok_add (pc := 533) rfl rfl (by decide +kernel)) (
  mA (i := 252) (ok_sald (pc := 534) rfl rfl (by decide +kernel)) (
  mA (i := 253) (ok_callI (pc := 535) (can_V cal_C_code (by decide +kernel) rfl (by decide +kernel) rfl wd_902 wd_903 wd_904 wd_35 (by decide +kernel)) rfl rfl) (
  mA (i := 254) (ok_ald_n (f := 2) (pc := 538) rfl rfl rfl (by decide +kernel)) (
  mA (i := 255) (ok_ald_n (f := 0) (pc := 539) rfl rfl rfl (by decide +kernel)) (
  mA (i := 256) (ok_ild_n (f := 3) (pc := 540) rfl rfl rfl (by decide +kernel)) (
  mA (i := 257) (ok_ic (n := 1) (pc := 541) (by decide +kernel) rfl rfl (by decide +kernel)) (
  mA (i := 258) (ok_add (pc := 542) rfl rfl (by decide +kernel)) (
  mA (i := 259) (ok_sald (pc := 543) rfl rfl (by decide +kernel)) (
  mA (i := 260) (ok_ald_n (f := 0) (pc := 544) rfl rfl rfl (by decide +kernel)) (
  mA (i := 261) (ok_ild_n (f := 3) (pc := 545) rfl rfl rfl (by decide +kernel)) (
  mA (i := 262) (ok_ic (n := 2) (pc := 546) (by decide +kernel) rfl rfl (by decide +kernel)) (
  mA (i := 263) (ok_add (pc := 547) rfl rfl (by decide +kernel)) (
  mA (i := 264) (ok_sald (pc := 548) rfl rfl (by decide +kernel)) (
  mA (i := 265) (ok_callI (pc := 549) (can_V cal_N_code (by decide +kernel) rfl (by decide +kernel) rfl wd_905 wd_906 wd_907 wd_605 (by decide +kernel)) rfl rfl) (
  mA (i := 266) (ok_ceq (off := 1149) (pc := 552) (tgt := 1701) rfl rfl rfl (by decide +kernel) (by decide +kernel)) (
  mA (i := 267) (ok_ic (n := 0) (pc := 555) (by decide +kernel) rfl rfl (by decide +kernel)) (
  mA (i := 268) (ok_zret (pc := 556) rfl rfl (by decide +kernel)) (
  mA (i := 269) (ok_ald_n (f := 1) (pc := 557) rfl rfl rfl (by decide +kernel)) (
  mA (i := 270) (ok_ald_n (f := 0) (pc := 558) rfl rfl rfl (by decide +kernel)) (
  mA (i := 271) (ok_ild_n (f := 3) (pc := 559) rfl rfl rfl (by decide +kernel)) (
  mA (i := 272) (ok_ic (n := 1) (pc := 560) (by decide +kernel) rfl rfl (by decide +kernel)) (
  mA (i := 273) (ok_add (pc := 561) rfl rfl (by decide +kernel)) (
  mA (i := 274) (ok_sald (pc := 562) rfl rfl (by decide +kernel)) (
  mA (i := 275) (ok_callI (pc := 563) (can_V cal_C_variables (by decide +kernel) rfl (by decide +kernel) rfl wd_908 wd_909 wd_910 wd_35 (by decide +kernel)) rfl rfl) (
  mA (i := 276) (ok_ald_n (f := 2) (pc := 566) rfl rfl rfl (by decide +kernel)) (
  mA (i := 277) (ok_ald_n (f := 0) (pc := 567) rfl rfl rfl (by decide +kernel)) (
  mA (i := 278) (ok_ild_n (f := 3) (pc := 568) rfl rfl rfl (by decide +kernel)) (
  mA (i := 279) (ok_ic (n := 1) (pc := 569) (by decide +kernel) rfl rfl (by decide +kernel)) (
  mA (i := 280) (ok_add (pc := 570) rfl rfl (by decide +kernel)) (
  mA (i := 281) (ok_sald (pc := 571) rfl rfl (by decide +kernel)) (
  mA (i := 282) (ok_callI (pc := 572) (can_V cal_N_variables (by decide +kernel) rfl (by decide +kernel) rfl wd_911 wd_912 wd_913 wd_605 (by decide +kernel)) rfl rfl) (
  mA (i := 283) (ok_ceq (off := 1126) (pc := 575) (tgt := 1701) rfl rfl rfl (by decide +kernel) (by decide +kernel)) (
  mA (i := 284) (ok_ic (n := 0) (pc := 578) (by decide +kernel) rfl rfl (by decide +kernel)) (
  mA (i := 285) (ok_zret (pc := 579) rfl rfl (by decide +kernel)) (
  mA (i := 286) (ok_ald_n (f := 1) (pc := 580) rfl rfl rfl (by decide +kernel)) (
  mA (i := 287) (ok_ald_n (f := 0) (pc := 581) rfl rfl rfl (by decide +kernel)) (
  mA (i := 288) (ok_ild_n (f := 3) (pc := 582) rfl rfl rfl (by decide +kernel)) (
  mA (i := 289) (ok_ic (n := 1) (pc := 583) (by decide +kernel) rfl rfl (by decide +kernel)) (
  mA (i := 290) (ok_add (pc := 584) rfl rfl (by decide +kernel)) (
  mA (i := 291) (ok_sald (pc := 585) rfl rfl (by decide +kernel)) (
  mA (i := 292) (ok_callI (pc := 586) (can_V cal_C_always (by decide +kernel) rfl (by decide +kernel) rfl wd_914 wd_915 wd_916 wd_35 (by decide +kernel)) rfl rfl) (
  mA (i := 293) (ok_ald_n (f := 2) (pc := 589) rfl rfl rfl (by decide +kernel)) (
  mA (i := 294) (ok_ald_n (f := 0) (pc := 590) rfl rfl rfl (by decide +kernel)) (
  mA (i := 295) (ok_ild_n (f := 3) (pc := 591) rfl rfl rfl (by decide +kernel)) (
  mA (i := 296) (ok_ic (n := 1) (pc := 592) (by decide +kernel) rfl rfl (by decide +kernel)) (
  mA (i := 297) (ok_add (pc := 593) rfl rfl (by decide +kernel)) (
  mA (i := 298) (ok_sald (pc := 594) rfl rfl (by decide +kernel)) (
  mA (i := 299) (ok_callI (pc := 595) (can_V cal_N_always (by decide +kernel) rfl (by decide +kernel) rfl wd_917 wd_918 wd_919 wd_605 (by decide +kernel)) rfl rfl) (
  ok_Lw_law_t300))))))))))))))))))))))))))))))))))))))))))))))))))))))))))))
set_option maxRecDepth 20000 in
theorem ok_Lw_law_t180 : mAll (mOk RL cL_law 4 true false (some .boolean) (mnat p_Lw_law)) 180 [o_ild 3, o_ic (nI 1), o_add, o_ald4 31, o_callI 228 2 11, o_ceq 1185, o_ic (nI 0), o_zret, o_ald 1, o_ald 0, o_ild 3, o_ic (nI 1), o_add, o_ald4 31, o_callI 131 2 10, o_ald 2, o_ald 0, o_ild 3, o_ic (nI 1), o_add, o_ald4 31, o_callI 233 2 11, o_ceq 1185, o_ic (nI 0), o_zret, o_ald 1, o_ald 0, o_ild 3, o_ic (nI 1), o_add, o_ald4 31, o_ald 0, o_ild 3, o_ic (nI 2), o_add, o_ald4 31, o_ald 0, o_ild 3, o_ic (nI 3), o_add, o_ald4 31, o_callI 132 4 10, o_ald 2, o_ald 0, o_ild 3, o_ic (nI 1), o_add, o_ald4 31, o_ald 0, o_ild 3, o_ic (nI 2), o_add, o_ald4 31, o_ald 0, o_ild 3, o_ic (nI 3), o_add, o_ald4 31, o_callI 234 4 11, o_ceq 1185, o_ic (nI 0), o_zret, o_ald 1, o_ald 0, o_ild 3, o_ic (nI 1), o_add, o_ald4 31, o_ald 0, o_ild 3, o_ic (nI 2), o_add, o_ald4 31, o_callI 133 3 10, o_ald 2, o_ald 0, o_ild 3, o_ic (nI 1), o_add, o_ald4 31, o_ald 0, o_ild 3, o_ic (nI 2), o_add, o_ald4 31, o_callI 235 3 11, o_ceq 1185, o_ic (nI 0), o_zret, o_ald 1, o_ald 0, o_ild 3, o_ic (nI 1), o_add, o_ald4 31, o_callI 134 2 10, o_ald 2, o_ald 0, o_ild 3, o_ic (nI 1), o_add, o_ald4 31, o_callI 238 2 11, o_ceq 1185, o_ic (nI 0), o_zret, o_ald 1, o_ald 0, o_ild 3, o_ic (nI 1), o_add, o_ald4 31, o_callI 135 2 10, o_ald 2, o_ald 0, o_ild 3, o_ic (nI 1), o_add, o_ald4 31, o_callI 240 2 11, o_ceq 1185, o_ic (nI 0), o_zret, o_ald 1, o_ald 0, o_ild 3, o_ic (nI 1), o_add, o_ald4 31, o_ald 0, o_ild 3, o_ic (nI 2), o_add, o_ald4 31, o_callI 136 3 10, o_ald 2, o_ald 0, o_ild 3, o_ic (nI 1), o_add, o_ald4 31, o_ald 0, o_ild 3, o_ic (nI 2), o_add, o_ald4 31, o_callI 261 3 11, o_ceq 1185, o_ic (nI 0), o_zret, o_ald 1, o_ald 0, o_ild 3, o_ic (nI 1), o_add, o_ald4 31, o_ald 0, o_ild 3, o_ic (nI 2), o_add, o_ald4 31, o_ald 0, o_ild 3, o_ic (nI 3), o_add, o_ald4 31, o_callI 137 4 10, o_ald 2, o_ald 0, o_ild 3, o_ic (nI 1), o_add, o_ald4 31, o_ald 0, o_ild 3, o_ic (nI 2), o_add, o_ald4 31, o_ald 0, o_ild 3, o_ic (nI 3), o_add, o_ald4 31, o_callI 250 4 11, o_ceq 1185, o_ic (nI 0), o_zret, o_ald 1, o_ald 0, o_ild 3, o_ic (nI 1), o_add, o_ald4 31, o_ald 0, o_ild 3, o_ic (nI 2), o_add, o_ald4 31, o_ald 0, o_ild 3, o_ic (nI 3), o_add, o_ald4 31, o_callI 138 4 10, o_ald 2, o_ald 0, o_ild 3, o_ic (nI 1), o_add, o_ald4 31, o_ald 0, o_ild 3, o_ic (nI 2), o_add, o_ald4 31, o_ald 0, o_ild 3, o_ic (nI 3), o_add, o_ald4 31, o_callI 251 4 11, o_ceq 1185, o_ic (nI 0), o_zret, o_ald 1, o_ald 0, o_ild 3, o_ic (nI 1), o_add, o_ald4 31, o_ald 0, o_ild 3, o_ic (nI 2), o_add, o_ald4 31, o_ald 0, o_ild 3, o_ic (nI 3), o_add, o_ald4 31, o_ald 0, o_ild 3, o_ic (nI 4), o_add, o_ald4 31, o_callI 139 5 10, o_ald 2, o_ald 0, o_ild 3, o_ic (nI 1), o_add, o_ald4 31, o_ald 0, o_ild 3, o_ic (nI 2), o_add, o_ald4 31, o_ald 0, o_ild 3, o_ic (nI 3), o_add, o_ald4 31, o_ald 0, o_ild 3, o_ic (nI 4), o_add, o_ald4 31, o_callI 252 5 11, o_ceq 1185, o_ic (nI 0), o_zret, o_ald 1, o_ald 0, o_ild 3, o_ic (nI 1), o_add, o_ald4 31, o_ald 0, o_ild 3, o_ic (nI 2), o_add, o_ald4 31, o_ald 0, o_ild 3, o_ic (nI 3), o_add, o_ald4 31, o_ald 0, o_ild 3, o_ic (nI 4), o_add, o_ald4 31, o_ald 0, o_ild 3, o_ic (nI 5), o_add, o_ald4 31, o_callI 140 6 10, o_ald 2, o_ald 0, o_ild 3, o_ic (nI 1), o_add, o_ald4 31, o_ald 0, o_ild 3, o_ic (nI 2), o_add, o_ald4 31, o_ald 0, o_ild 3, o_ic (nI 3), o_add, o_ald4 31, o_ald 0, o_ild 3, o_ic (nI 4), o_add, o_ald4 31, o_ald 0, o_ild 3, o_ic (nI 5), o_add, o_ald4 31, o_callI 253 6 11, o_ceq 1185, o_ic (nI 0), o_zret, o_ald 1, o_ald 0, o_ild 3, o_ic (nI 1), o_add, o_ald4 31, o_ald 0, o_ild 3, o_ic (nI 2), o_add, o_ald4 31, o_callI 141 3 10, o_ald 2, o_ald 0, o_ild 3, o_ic (nI 1), o_add, o_ald4 31, o_ald 0, o_ild 3, o_ic (nI 2), o_add, o_ald4 31, o_callI 255 3 11, o_ceq 1185, o_ic (nI 0), o_zret, o_ald 1, o_ald 0, o_ild 3, o_ic (nI 1), o_add, o_ald4 31, o_ald 0, o_ild 3, o_ic (nI 2), o_add, o_ald4 31, o_ald 0, o_ild 3, o_ic (nI 3), o_add, o_ald4 31, o_callI 142 4 10, o_ald 2, o_ald 0, o_ild 3, o_ic (nI 1), o_add, o_ald4 31, o_ald 0, o_ild 3, o_ic (nI 2), o_add, o_ald4 31, o_ald 0, o_ild 3, o_ic (nI 3), o_add, o_ald4 31, o_callI 259 4 11, o_ceq 1185, o_ic (nI 0), o_zret, o_ald 1, o_ald 0, o_ild 3, o_ic (nI 1), o_add, o_ald4 31, o_ald 0, o_ild 3, o_ic (nI 2), o_add, o_ald4 31, o_callI 143 3 10, o_ald 2, o_ald 0, o_ild 3, o_ic (nI 1), o_add, o_ald4 31, o_ald 0, o_ild 3, o_ic (nI 2), o_add, o_ald4 31, o_callI 254 3 11, o_ceq 1185, o_ic (nI 0), o_zret, o_ald 1, o_ald 0, o_ild 3, o_ic (nI 1), o_add, o_ald4 31, o_ald 0, o_ild 3, o_ic (nI 2), o_add, o_ald4 31, o_ald 0, o_ild 3, o_ic (nI 3), o_add, o_ald4 31, o_callI 144 4 10, o_ald 2, o_ald 0, o_ild 3, o_ic (nI 1), o_add, o_ald4 31, o_ald 0, o_ild 3, o_ic (nI 2), o_add, o_ald4 31, o_ald 0, o_ild 3, o_ic (nI 3), o_add, o_ald4 31, o_callI 267 4 11, o_ceq 1185, o_ic (nI 0), o_zret, o_ald 1, o_ald 0, o_ild 3, o_ic (nI 1), o_add, o_ald4 31, o_ald 0, o_ild 3, o_ic (nI 2), o_add, o_ald4 31, o_callI 145 3 10, o_ald 2, o_ald 0, o_ild 3, o_ic (nI 1), o_add, o_ald4 31, o_ald 0, o_ild 3, o_ic (nI 2), o_add, o_ald4 31, o_callI 268 3 11, o_ceq 1185, o_ic (nI 0), o_zret, o_ald 1, o_ald 0, o_ild 3, o_ic (nI 1), o_add, o_ald4 31, o_ald 0, o_ild 3, o_ic (nI 2), o_add, o_ald4 31, o_callI 146 3 10, o_ald 2, o_ald 0, o_ild 3, o_ic (nI 1), o_add, o_ald4 31, o_ald 0, o_ild 3, o_ic (nI 2), o_add, o_ald4 31, o_callI 269 3 11, o_ceq 1185, o_ic (nI 0), o_zret, o_ald 1, o_ald 0, o_ild 3, o_ic (nI 1), o_add, o_ald4 31, o_ald 0, o_ild 3, o_ic (nI 2), o_add, o_ald4 31, o_callI 147 3 10, o_ald 2, o_ald 0, o_ild 3, o_ic (nI 1), o_add, o_ald4 31, o_ald 0, o_ild 3, o_ic (nI 2), o_add, o_ald4 31, o_callI 272 3 11, o_ceq 1185, o_ic (nI 0), o_zret, o_ald 1, o_ald 0, o_ild 3, o_ic (nI 1), o_add, o_ald4 31, o_callI 148 2 10, o_ald 2, o_ald 0, o_ild 3, o_ic (nI 1), o_add, o_ald4 31, o_callI 273 2 11, o_ceq 1185, o_ic (nI 0), o_zret, o_ald 1, o_callI 149 1 10, o_ald 2, o_callI 274 1 11, o_ceq 1185, o_ic (nI 0), o_zret, o_ald 1, o_ald 0, o_ild 3, o_ic (nI 1), o_add, o_ald4 31, o_callI 150 2 10, o_ald 2, o_ald 0, o_ild 3, o_ic (nI 1), o_add, o_ald4 31, o_callI 275 2 11, o_ceq 1185, o_ic (nI 0), o_zret, o_ald 1, o_callI 151 1 10, o_ald 2, o_callI 280 1 11, o_ceq 1185, o_ic (nI 0), o_zret, o_ald 1, o_ald 0, o_ild 3, o_ic (nI 1), o_add, o_ald4 31, o_ald 0, o_ild 3, o_ic (nI 2), o_add, o_ald4 31, o_callI 152 3 10, o_ald 2, o_ald 0, o_ild 3, o_ic (nI 1), o_add, o_ald4 31, o_ald 0, o_ild 3, o_ic (nI 2), o_add, o_ald4 31, o_callI 281 3 11, o_ceq 1185, o_ic (nI 0), o_zret, o_ald 1, o_ald 0, o_ild 3, o_ic (nI 1), o_add, o_ald4 31, o_callI 153 2 10, o_ald 2, o_ald 0, o_ild 3, o_ic (nI 1), o_add, o_ald4 31, o_callI 282 2 11, o_ceq 1185, o_ic (nI 0), o_zret, o_ald 1, o_ald 0, o_ild 3, o_ic (nI 1), o_add, o_ald4 31, o_ald 0, o_ild 3, o_ic (nI 2), o_add, o_ald4 31, o_callI 154 3 10, o_ald 2, o_ald 0, o_ild 3, o_ic (nI 1), o_add, o_ald4 31, o_ald 0, o_ild 3, o_ic (nI 2), o_add, o_ald4 31, o_callI 289 3 11, o_ceq 1185, o_ic (nI 0), o_zret, o_ald 1, o_ald 0, o_ild 3, o_ic (nI 1), o_add, o_ald4 31, o_ald 0, o_ild 3, o_ic (nI 2), o_add, o_ald4 31, o_callI 155 3 10, o_ald 2, o_ald 0, o_ild 3, o_ic (nI 1), o_add, o_ald4 31, o_ald 0, o_ild 3, o_ic (nI 2), o_add, o_ald4 31, o_callI 290 3 11, o_ceq 1185, o_ic (nI 0), o_zret, o_ald 1, o_ald 0, o_ild 3, o_ic (nI 1), o_add, o_ald4 31, o_ald 0, o_ild 3, o_ic (nI 2), o_add, o_ald4 31, o_callI 156 3 10, o_ald 2, o_ald 0, o_ild 3, o_ic (nI 1), o_add, o_ald4 31, o_ald 0, o_ild 3, o_ic (nI 2), o_add, o_ald4 31, o_callI 285 3 11, o_ceq 1185, o_ic (nI 0), o_zret, o_ald 1, o_ald 0, o_ild 3, o_ic (nI 1), o_add, o_ald4 31, o_ald 0, o_ild 3, o_ic (nI 2), o_add, o_ald4 31, o_callI 157 3 10, o_ald 2, o_ald 0, o_ild 3, o_ic (nI 1), o_add, o_ald4 31, o_ald 0, o_ild 3, o_ic (nI 2), o_add, o_ald4 31, o_callI 287 3 11, o_ceq 1185, o_ic (nI 0), o_zret, o_ald 1, o_ald 0, o_ild 3, o_ic (nI 1), o_add, o_ald4 31, o_ald 0, o_ild 3, o_ic (nI 2), o_add, o_ald4 31, o_callI 158 3 10, o_ald 2, o_ald 0, o_ild 3, o_ic (nI 1), o_add, o_ald4 31, o_ald 0, o_ild 3, o_ic (nI 2), o_add, o_ald4 31, o_callI 286 3 11, o_ceq 1185, o_ic (nI 0), o_zret, o_ald 1, o_ald 0, o_ild 3, o_ic (nI 1), o_add, o_ald4 31, o_ald 0, o_ild 3, o_ic (nI 2), o_add, o_ald4 31, o_callI 159 3 10, o_ald 2, o_ald 0, o_ild 3, o_ic (nI 1), o_add, o_ald4 31, o_ald 0, o_ild 3, o_ic (nI 2), o_add, o_ald4 31, o_callI 293 3 11, o_ceq 1185, o_ic (nI 0), o_zret, o_ald 1, o_ald 0, o_ild 3, o_ic (nI 1), o_add, o_ald4 31, o_callI 160 2 10, o_ald 2, o_ald 0, o_ild 3, o_ic (nI 1), o_add, o_ald4 31, o_callI 295 2 11, o_ceq 1185, o_ic (nI 0), o_zret, o_ald 1, o_ald 0, o_ild 3, o_ic (nI 1), o_add, o_ald4 31, o_ald 0, o_ild 3, o_ic (nI 2), o_add, o_ald4 31, o_callI 161 3 10, o_ald 2, o_ald 0, o_ild 3, o_ic (nI 1), o_add, o_ald4 31, o_ald 0, o_ild 3, o_ic (nI 2), o_add, o_ald4 31, o_callI 297 3 11, o_ceq 1185, o_ic (nI 0), o_zret, o_ald 1, o_ald 0, o_ild 3, o_ic (nI 1), o_add, o_ald4 31, o_callI 162 2 10, o_ald 2, o_ald 0, o_ild 3, o_ic (nI 1), o_add, o_ald4 31, o_callI 301 2 11, o_ceq 1185, o_ic (nI 0), o_zret, o_ald 1, o_ald 0, o_ild 3, o_ic (nI 1), o_add, o_ald4 31, o_callI 163 2 10, o_ald 2, o_ald 0, o_ild 3, o_ic (nI 1), o_add, o_ald4 31, o_callI 302 2 11, o_ceq 1185, o_ic (nI 0), o_zret, o_ald 1, o_ald 0, o_ild 3, o_ic (nI 1), o_add, o_ald4 31, o_callI 164 2 10, o_ald 2, o_ald 0, o_ild 3, o_ic (nI 1), o_add, o_ald4 31, o_callI 303 2 11, o_ceq 1185, o_ic (nI 0), o_zret, o_ald 1, o_ald 0, o_ild 3, o_ic (nI 1), o_add, o_ald4 31, o_ald 0, o_ild 3, o_ic (nI 2), o_add, o_ald4 31, o_callI 165 3 10, o_ald 2, o_ald 0, o_ild 3, o_ic (nI 1), o_add, o_ald4 31, o_ald 0, o_ild 3, o_ic (nI 2), o_add, o_ald4 31, o_callI 305 3 11, o_ceq 1185, o_ic (nI 0), o_zret, o_ald 1, o_ald 0, o_ild 3, o_ic (nI 1), o_add, o_ald4 31, o_callI 166 2 10, o_ald 2, o_ald 0, o_ild 3, o_ic (nI 1), o_add, o_ald4 31, o_callI 306 2 11, o_ceq 1185, o_ic (nI 0), o_zret, o_ald 1, o_callI 167 1 10, o_ald 2, o_callI 307 1 11, o_ceq 1185, o_ic (nI 0), o_zret, o_ald 1, o_ald 0, o_ild 3, o_ic (nI 1), o_add, o_ald4 31, o_callI 168 2 10, o_ald 2, o_ald 0, o_ild 3, o_ic (nI 1), o_add, o_ald4 31, o_callI 230 2 11, o_ceq 1185, o_ic (nI 0), o_zret, o_ald 1, o_ald 0, o_ild 3, o_ic (nI 1), o_add, o_ald4 31, o_callI 169 2 10, o_ald 2, o_ald 0, o_ild 3, o_ic (nI 1), o_add, o_ald4 31, o_callI 231 2 11, o_ceq 1185, o_ic (nI 0), o_zret, o_ald 1, o_ald 0, o_ild 3, o_ic (nI 1), o_add, o_ald4 31, o_callI 170 2 10, o_ald 2, o_ald 0, o_ild 3, o_ic (nI 1), o_add, o_ald4 31, o_callI 232 2 11, o_ceq 1185, o_ic (nI 0), o_zret, o_ald 1, o_ald 0, o_ild 3, o_ic (nI 1), o_add, o_ald4 31, o_callI 171 2 10, o_ald 2, o_ald 0, o_ild 3, o_ic (nI 1), o_add, o_ald4 31, o_callI 308 2 11, o_ceq 1185, o_ic (nI 0), o_zret, o_inc 3 (nI 6), o_goto 10, o_ic (nI 1), o_zret] := mA (i := 180) (ok_ild_n (f := 3) (pc := 446) rfl rfl rfl (by decide +kernel)) (
  mA (i := 181) (ok_ic (n := 1) (pc := 447) (by decide +kernel) rfl rfl (by decide +kernel)) (
  mA (i := 182) (ok_add (pc := 448) rfl rfl (by decide +kernel)) (
  mA (i := 183) (ok_sald (pc := 449) rfl rfl (by decide +kernel)) (
  mA (i := 184) (ok_callI (pc := 450) (can_V cal_N_remove (by decide +kernel) rfl (by decide +kernel) rfl wd_887 wd_888 wd_889 wd_605 (by decide +kernel)) rfl rfl) (
  mA (i := 185) (ok_ceq (off := 1248) (pc := 453) (tgt := 1701) rfl rfl rfl (by decide +kernel) (by decide +kernel)) (
  mA (i := 186) (ok_ic (n := 0) (pc := 456) (by decide +kernel) rfl rfl (by decide +kernel)) (
  mA (i := 187) (ok_zret (pc := 457) rfl rfl (by decide +kernel)) (
  mA (i := 188) (ok_ald_n (f := 1) (pc := 458) rfl rfl rfl (by decide +kernel)) (
  mA (i := 189) (ok_ald_n (f := 0) (pc := 459) rfl rfl rfl (by decide +kernel)) (
  mA (i := 190) (ok_ild_n (f := 3) (pc := 460) rfl rfl rfl (by decide +kernel)) (
  mA (i := 191) (ok_ic (n := 1) (pc := 461) (by decide +kernel) rfl rfl (by decide +kernel)) (
  mA (i := 192) (ok_add (pc := 462) rfl rfl (by decide +kernel)) (
  mA (i := 193) (ok_sald (pc := 463) rfl rfl (by decide +kernel)) (
  mA (i := 194) (ok_callI (pc := 464) (can_V cal_C_literals (by decide +kernel) rfl (by decide +kernel) rfl wd_890 wd_891 wd_892 wd_35 (by decide +kernel)) rfl rfl) (
  mA (i := 195) (ok_ald_n (f := 2) (pc := 467) rfl rfl rfl (by decide +kernel)) (
  mA (i := 196) (ok_ald_n (f := 0) (pc := 468) rfl rfl rfl (by decide +kernel)) (
  mA (i := 197) (ok_ild_n (f := 3) (pc := 469) rfl rfl rfl (by decide +kernel)) (
  mA (i := 198) (ok_ic (n := 1) (pc := 470) (by decide +kernel) rfl rfl (by decide +kernel)) (
  mA (i := 199) (ok_add (pc := 471) rfl rfl (by decide +kernel)) (
  mA (i := 200) (ok_sald (pc := 472) rfl rfl (by decide +kernel)) (
  mA (i := 201) (ok_callI (pc := 473) (can_V cal_N_literals (by decide +kernel) rfl (by decide +kernel) rfl wd_893 wd_894 wd_895 wd_605 (by decide +kernel)) rfl rfl) (
  mA (i := 202) (ok_ceq (off := 1225) (pc := 476) (tgt := 1701) rfl rfl rfl (by decide +kernel) (by decide +kernel)) (
  mA (i := 203) (ok_ic (n := 0) (pc := 479) (by decide +kernel) rfl rfl (by decide +kernel)) (
  mA (i := 204) (ok_zret (pc := 480) rfl rfl (by decide +kernel)) (
  mA (i := 205) (ok_ald_n (f := 1) (pc := 481) rfl rfl rfl (by decide +kernel)) (
  mA (i := 206) (ok_ald_n (f := 0) (pc := 482) rfl rfl rfl (by decide +kernel)) (
  mA (i := 207) (ok_ild_n (f := 3) (pc := 483) rfl rfl rfl (by decide +kernel)) (
  mA (i := 208) (ok_ic (n := 1) (pc := 484) (by decide +kernel) rfl rfl (by decide +kernel)) (
  mA (i := 209) (ok_add (pc := 485) rfl rfl (by decide +kernel)) (
  mA (i := 210) (ok_sald (pc := 486) rfl rfl (by decide +kernel)) (
  mA (i := 211) (ok_ald_n (f := 0) (pc := 487) rfl rfl rfl (by decide +kernel)) (
  mA (i := 212) (ok_ild_n (f := 3) (pc := 488) rfl rfl rfl (by decide +kernel)) (
  mA (i := 213) (ok_ic (n := 2) (pc := 489) (by decide +kernel) rfl rfl (by decide +kernel)) (
  mA (i := 214) (ok_add (pc := 490) rfl rfl (by decide +kernel)) (
  mA (i := 215) (ok_sald (pc := 491) rfl rfl (by decide +kernel)) (
  mA (i := 216) (ok_ald_n (f := 0) (pc := 492) rfl rfl rfl (by decide +kernel)) (
  mA (i := 217) (ok_ild_n (f := 3) (pc := 493) rfl rfl rfl (by decide +kernel)) (
  mA (i := 218) (ok_ic (n := 3) (pc := 494) (by decide +kernel) rfl rfl (by decide +kernel)) (
  mA (i := 219) (ok_add (pc := 495) rfl rfl (by decide +kernel)) (
  mA (i := 220) (ok_sald (pc := 496) rfl rfl (by decide +kernel)) (
  mA (i := 221) (ok_callI (pc := 497) (can_V cal_C_literal (by decide +kernel) rfl (by decide +kernel) rfl wd_896 wd_897 wd_898 wd_35 (by decide +kernel)) rfl rfl) (
  mA (i := 222) (ok_ald_n (f := 2) (pc := 500) rfl rfl rfl (by decide +kernel)) (
  mA (i := 223) (ok_ald_n (f := 0) (pc := 501) rfl rfl rfl (by decide +kernel)) (
  mA (i := 224) (ok_ild_n (f := 3) (pc := 502) rfl rfl rfl (by decide +kernel)) (
  mA (i := 225) (ok_ic (n := 1) (pc := 503) (by decide +kernel) rfl rfl (by decide +kernel)) (
  mA (i := 226) (ok_add (pc := 504) rfl rfl (by decide +kernel)) (
  mA (i := 227) (ok_sald (pc := 505) rfl rfl (by decide +kernel)) (
  mA (i := 228) (ok_ald_n (f := 0) (pc := 506) rfl rfl rfl (by decide +kernel)) (
  mA (i := 229) (ok_ild_n (f := 3) (pc := 507) rfl rfl rfl (by decide +kernel)) (
  mA (i := 230) (ok_ic (n := 2) (pc := 508) (by decide +kernel) rfl rfl (by decide +kernel)) (
  mA (i := 231) (ok_add (pc := 509) rfl rfl (by decide +kernel)) (
  mA (i := 232) (ok_sald (pc := 510) rfl rfl (by decide +kernel)) (
  mA (i := 233) (ok_ald_n (f := 0) (pc := 511) rfl rfl rfl (by decide +kernel)) (
  mA (i := 234) (ok_ild_n (f := 3) (pc := 512) rfl rfl rfl (by decide +kernel)) (
  mA (i := 235) (ok_ic (n := 3) (pc := 513) (by decide +kernel) rfl rfl (by decide +kernel)) (
  mA (i := 236) (ok_add (pc := 514) rfl rfl (by decide +kernel)) (
  mA (i := 237) (ok_sald (pc := 515) rfl rfl (by decide +kernel)) (
  mA (i := 238) (ok_callI (pc := 516) (can_V cal_N_literal (by decide +kernel) rfl (by decide +kernel) rfl wd_899 wd_900 wd_901 wd_605 (by decide +kernel)) rfl rfl) (
  mA (i := 239) (ok_ceq (off := 1182) (pc := 519) (tgt := 1701) rfl rfl rfl (by decide +kernel) (by decide +kernel)) (
  ok_Lw_law_t240))))))))))))))))))))))))))))))))))))))))))))))))))))))))))))
set_option maxRecDepth 20000 in
theorem ok_Lw_law_t120 : mAll (mOk RL cL_law 4 true false (some .boolean) (mnat p_Lw_law)) 120 [o_ald 2, o_ald 0, o_ild 3, o_ic (nI 1), o_add, o_ald4 31, o_callI 222 2 11, o_ceq 1185, o_ic (nI 0), o_zret, o_ald 1, o_ald 0, o_ild 3, o_ic (nI 1), o_add, o_ald4 31, o_callI 127 2 10, o_ald 2, o_ald 0, o_ild 3, o_ic (nI 1), o_add, o_ald4 31, o_callI 223 2 11, o_ceq 1185, o_ic (nI 0), o_zret, o_ald 1, o_ald 0, o_ild 3, o_ic (nI 1), o_add, o_ald4 31, o_callI 128 2 10, o_ald 2, o_ald 0, o_ild 3, o_ic (nI 1), o_add, o_ald4 31, o_callI 225 2 11, o_ceq 1185, o_ic (nI 0), o_zret, o_ald 1, o_callI 129 1 10, o_ald 2, o_callI 226 1 11, o_ceq 1185, o_ic (nI 0), o_zret, o_ald 1, o_ald 0, o_ild 3, o_ic (nI 1), o_add, o_ald4 31, o_callI 130 2 10, o_ald 2, o_ald 0, o_ild 3, o_ic (nI 1), o_add, o_ald4 31, o_callI 228 2 11, o_ceq 1185, o_ic (nI 0), o_zret, o_ald 1, o_ald 0, o_ild 3, o_ic (nI 1), o_add, o_ald4 31, o_callI 131 2 10, o_ald 2, o_ald 0, o_ild 3, o_ic (nI 1), o_add, o_ald4 31, o_callI 233 2 11, o_ceq 1185, o_ic (nI 0), o_zret, o_ald 1, o_ald 0, o_ild 3, o_ic (nI 1), o_add, o_ald4 31, o_ald 0, o_ild 3, o_ic (nI 2), o_add, o_ald4 31, o_ald 0, o_ild 3, o_ic (nI 3), o_add, o_ald4 31, o_callI 132 4 10, o_ald 2, o_ald 0, o_ild 3, o_ic (nI 1), o_add, o_ald4 31, o_ald 0, o_ild 3, o_ic (nI 2), o_add, o_ald4 31, o_ald 0, o_ild 3, o_ic (nI 3), o_add, o_ald4 31, o_callI 234 4 11, o_ceq 1185, o_ic (nI 0), o_zret, o_ald 1, o_ald 0, o_ild 3, o_ic (nI 1), o_add, o_ald4 31, o_ald 0, o_ild 3, o_ic (nI 2), o_add, o_ald4 31, o_callI 133 3 10, o_ald 2, o_ald 0, o_ild 3, o_ic (nI 1), o_add, o_ald4 31, o_ald 0, o_ild 3, o_ic (nI 2), o_add, o_ald4 31, o_callI 235 3 11, o_ceq 1185, o_ic (nI 0), o_zret, o_ald 1, o_ald 0, o_ild 3, o_ic (nI 1), o_add, o_ald4 31, o_callI 134 2 10, o_ald 2, o_ald 0, o_ild 3, o_ic (nI 1), o_add, o_ald4 31, o_callI 238 2 11, o_ceq 1185, o_ic (nI 0), o_zret, o_ald 1, o_ald 0, o_ild 3, o_ic (nI 1), o_add, o_ald4 31, o_callI 135 2 10, o_ald 2, o_ald 0, o_ild 3, o_ic (nI 1), o_add, o_ald4 31, o_callI 240 2 11, o_ceq 1185, o_ic (nI 0), o_zret, o_ald 1, o_ald 0, o_ild 3, o_ic (nI 1), o_add, o_ald4 31, o_ald 0, o_ild 3, o_ic (nI 2), o_add, o_ald4 31, o_callI 136 3 10, o_ald 2, o_ald 0, o_ild 3, o_ic (nI 1), o_add, o_ald4 31, o_ald 0, o_ild 3, o_ic (nI 2), o_add, o_ald4 31, o_callI 261 3 11, o_ceq 1185, o_ic (nI 0), o_zret, o_ald 1, o_ald 0, o_ild 3, o_ic (nI 1), o_add, o_ald4 31, o_ald 0, o_ild 3, o_ic (nI 2), o_add, o_ald4 31, o_ald 0, o_ild 3, o_ic (nI 3), o_add, o_ald4 31, o_callI 137 4 10, o_ald 2, o_ald 0, o_ild 3, o_ic (nI 1), o_add, o_ald4 31, o_ald 0, o_ild 3, o_ic (nI 2), o_add, o_ald4 31, o_ald 0, o_ild 3, o_ic (nI 3), o_add, o_ald4 31, o_callI 250 4 11, o_ceq 1185, o_ic (nI 0), o_zret, o_ald 1, o_ald 0, o_ild 3, o_ic (nI 1), o_add, o_ald4 31, o_ald 0, o_ild 3, o_ic (nI 2), o_add, o_ald4 31, o_ald 0, o_ild 3, o_ic (nI 3), o_add, o_ald4 31, o_callI 138 4 10, o_ald 2, o_ald 0, o_ild 3, o_ic (nI 1), o_add, o_ald4 31, o_ald 0, o_ild 3, o_ic (nI 2), o_add, o_ald4 31, o_ald 0, o_ild 3, o_ic (nI 3), o_add, o_ald4 31, o_callI 251 4 11, o_ceq 1185, o_ic (nI 0), o_zret, o_ald 1, o_ald 0, o_ild 3, o_ic (nI 1), o_add, o_ald4 31, o_ald 0, o_ild 3, o_ic (nI 2), o_add, o_ald4 31, o_ald 0, o_ild 3, o_ic (nI 3), o_add, o_ald4 31, o_ald 0, o_ild 3, o_ic (nI 4), o_add, o_ald4 31, o_callI 139 5 10, o_ald 2, o_ald 0, o_ild 3, o_ic (nI 1), o_add, o_ald4 31, o_ald 0, o_ild 3, o_ic (nI 2), o_add, o_ald4 31, o_ald 0, o_ild 3, o_ic (nI 3), o_add, o_ald4 31, o_ald 0, o_ild 3, o_ic (nI 4), o_add, o_ald4 31, o_callI 252 5 11, o_ceq 1185, o_ic (nI 0), o_zret, o_ald 1, o_ald 0, o_ild 3, o_ic (nI 1), o_add, o_ald4 31, o_ald 0, o_ild 3, o_ic (nI 2), o_add, o_ald4 31, o_ald 0, o_ild 3, o_ic (nI 3), o_add, o_ald4 31, o_ald 0, o_ild 3, o_ic (nI 4), o_add, o_ald4 31, o_ald 0, o_ild 3, o_ic (nI 5), o_add, o_ald4 31, o_callI 140 6 10, o_ald 2, o_ald 0, o_ild 3, o_ic (nI 1), o_add, o_ald4 31, o_ald 0, o_ild 3, o_ic (nI 2), o_add, o_ald4 31, o_ald 0, o_ild 3, o_ic (nI 3), o_add, o_ald4 31, o_ald 0, o_ild 3, o_ic (nI 4), o_add, o_ald4 31, o_ald 0, o_ild 3, o_ic (nI 5), o_add, o_ald4 31, o_callI 253 6 11, o_ceq 1185, o_ic (nI 0), o_zret, o_ald 1, o_ald 0, o_ild 3, o_ic (nI 1), o_add, o_ald4 31, o_ald 0, o_ild 3, o_ic (nI 2), o_add, o_ald4 31, o_callI 141 3 10, o_ald 2, o_ald 0, o_ild 3, o_ic (nI 1), o_add, o_ald4 31, o_ald 0, o_ild 3, o_ic (nI 2), o_add, o_ald4 31, o_callI 255 3 11, o_ceq 1185, o_ic (nI 0), o_zret, o_ald 1, o_ald 0, o_ild 3, o_ic (nI 1), o_add, o_ald4 31, o_ald 0, o_ild 3, o_ic (nI 2), o_add, o_ald4 31, o_ald 0, o_ild 3, o_ic (nI 3), o_add, o_ald4 31, o_callI 142 4 10, o_ald 2, o_ald 0, o_ild 3, o_ic (nI 1), o_add, o_ald4 31, o_ald 0, o_ild 3, o_ic (nI 2), o_add, o_ald4 31, o_ald 0, o_ild 3, o_ic (nI 3), o_add, o_ald4 31, o_callI 259 4 11, o_ceq 1185, o_ic (nI 0), o_zret, o_ald 1, o_ald 0, o_ild 3, o_ic (nI 1), o_add, o_ald4 31, o_ald 0, o_ild 3, o_ic (nI 2), o_add, o_ald4 31, o_callI 143 3 10, o_ald 2, o_ald 0, o_ild 3, o_ic (nI 1), o_add, o_ald4 31, o_ald 0, o_ild 3, o_ic (nI 2), o_add, o_ald4 31, o_callI 254 3 11, o_ceq 1185, o_ic (nI 0), o_zret, o_ald 1, o_ald 0, o_ild 3, o_ic (nI 1), o_add, o_ald4 31, o_ald 0, o_ild 3, o_ic (nI 2), o_add, o_ald4 31, o_ald 0, o_ild 3, o_ic (nI 3), o_add, o_ald4 31, o_callI 144 4 10, o_ald 2, o_ald 0, o_ild 3, o_ic (nI 1), o_add, o_ald4 31, o_ald 0, o_ild 3, o_ic (nI 2), o_add, o_ald4 31, o_ald 0, o_ild 3, o_ic (nI 3), o_add, o_ald4 31, o_callI 267 4 11, o_ceq 1185, o_ic (nI 0), o_zret, o_ald 1, o_ald 0, o_ild 3, o_ic (nI 1), o_add, o_ald4 31, o_ald 0, o_ild 3, o_ic (nI 2), o_add, o_ald4 31, o_callI 145 3 10, o_ald 2, o_ald 0, o_ild 3, o_ic (nI 1), o_add, o_ald4 31, o_ald 0, o_ild 3, o_ic (nI 2), o_add, o_ald4 31, o_callI 268 3 11, o_ceq 1185, o_ic (nI 0), o_zret, o_ald 1, o_ald 0, o_ild 3, o_ic (nI 1), o_add, o_ald4 31, o_ald 0, o_ild 3, o_ic (nI 2), o_add, o_ald4 31, o_callI 146 3 10, o_ald 2, o_ald 0, o_ild 3, o_ic (nI 1), o_add, o_ald4 31, o_ald 0, o_ild 3, o_ic (nI 2), o_add, o_ald4 31, o_callI 269 3 11, o_ceq 1185, o_ic (nI 0), o_zret, o_ald 1, o_ald 0, o_ild 3, o_ic (nI 1), o_add, o_ald4 31, o_ald 0, o_ild 3, o_ic (nI 2), o_add, o_ald4 31, o_callI 147 3 10, o_ald 2, o_ald 0, o_ild 3, o_ic (nI 1), o_add, o_ald4 31, o_ald 0, o_ild 3, o_ic (nI 2), o_add, o_ald4 31, o_callI 272 3 11, o_ceq 1185, o_ic (nI 0), o_zret, o_ald 1, o_ald 0, o_ild 3, o_ic (nI 1), o_add, o_ald4 31, o_callI 148 2 10, o_ald 2, o_ald 0, o_ild 3, o_ic (nI 1), o_add, o_ald4 31, o_callI 273 2 11, o_ceq 1185, o_ic (nI 0), o_zret, o_ald 1, o_callI 149 1 10, o_ald 2, o_callI 274 1 11, o_ceq 1185, o_ic (nI 0), o_zret, o_ald 1, o_ald 0, o_ild 3, o_ic (nI 1), o_add, o_ald4 31, o_callI 150 2 10, o_ald 2, o_ald 0, o_ild 3, o_ic (nI 1), o_add, o_ald4 31, o_callI 275 2 11, o_ceq 1185, o_ic (nI 0), o_zret, o_ald 1, o_callI 151 1 10, o_ald 2, o_callI 280 1 11, o_ceq 1185, o_ic (nI 0), o_zret, o_ald 1, o_ald 0, o_ild 3, o_ic (nI 1), o_add, o_ald4 31, o_ald 0, o_ild 3, o_ic (nI 2), o_add, o_ald4 31, o_callI 152 3 10, o_ald 2, o_ald 0, o_ild 3, o_ic (nI 1), o_add, o_ald4 31, o_ald 0, o_ild 3, o_ic (nI 2), o_add, o_ald4 31, o_callI 281 3 11, o_ceq 1185, o_ic (nI 0), o_zret, o_ald 1, o_ald 0, o_ild 3, o_ic (nI 1), o_add, o_ald4 31, o_callI 153 2 10, o_ald 2, o_ald 0, o_ild 3, o_ic (nI 1), o_add, o_ald4 31, o_callI 282 2 11, o_ceq 1185, o_ic (nI 0), o_zret, o_ald 1, o_ald 0, o_ild 3, o_ic (nI 1), o_add, o_ald4 31, o_ald 0, o_ild 3, o_ic (nI 2), o_add, o_ald4 31, o_callI 154 3 10, o_ald 2, o_ald 0, o_ild 3, o_ic (nI 1), o_add, o_ald4 31, o_ald 0, o_ild 3, o_ic (nI 2), o_add, o_ald4 31, o_callI 289 3 11, o_ceq 1185, o_ic (nI 0), o_zret, o_ald 1, o_ald 0, o_ild 3, o_ic (nI 1), o_add, o_ald4 31, o_ald 0, o_ild 3, o_ic (nI 2), o_add, o_ald4 31, o_callI 155 3 10, o_ald 2, o_ald 0, o_ild 3, o_ic (nI 1), o_add, o_ald4 31, o_ald 0, o_ild 3, o_ic (nI 2), o_add, o_ald4 31, o_callI 290 3 11, o_ceq 1185, o_ic (nI 0), o_zret, o_ald 1, o_ald 0, o_ild 3, o_ic (nI 1), o_add, o_ald4 31, o_ald 0, o_ild 3, o_ic (nI 2), o_add, o_ald4 31, o_callI 156 3 10, o_ald 2, o_ald 0, o_ild 3, o_ic (nI 1), o_add, o_ald4 31, o_ald 0, o_ild 3, o_ic (nI 2), o_add, o_ald4 31, o_callI 285 3 11, o_ceq 1185, o_ic (nI 0), o_zret, o_ald 1, o_ald 0, o_ild 3, o_ic (nI 1), o_add, o_ald4 31, o_ald 0, o_ild 3, o_ic (nI 2), o_add, o_ald4 31, o_callI 157 3 10, o_ald 2, o_ald 0, o_ild 3, o_ic (nI 1), o_add, o_ald4 31, o_ald 0, o_ild 3, o_ic (nI 2), o_add, o_ald4 31, o_callI 287 3 11, o_ceq 1185, o_ic (nI 0), o_zret, o_ald 1, o_ald 0, o_ild 3, o_ic (nI 1), o_add, o_ald4 31, o_ald 0, o_ild 3, o_ic (nI 2), o_add, o_ald4 31, o_callI 158 3 10, o_ald 2, o_ald 0, o_ild 3, o_ic (nI 1), o_add, o_ald4 31, o_ald 0, o_ild 3, o_ic (nI 2), o_add, o_ald4 31, o_callI 286 3 11, o_ceq 1185, o_ic (nI 0), o_zret, o_ald 1, o_ald 0, o_ild 3, o_ic (nI 1), o_add, o_ald4 31, o_ald 0, o_ild 3, o_ic (nI 2), o_add, o_ald4 31, o_callI 159 3 10, o_ald 2, o_ald 0, o_ild 3, o_ic (nI 1), o_add, o_ald4 31, o_ald 0, o_ild 3, o_ic (nI 2), o_add, o_ald4 31, o_callI 293 3 11, o_ceq 1185, o_ic (nI 0), o_zret, o_ald 1, o_ald 0, o_ild 3, o_ic (nI 1), o_add, o_ald4 31, o_callI 160 2 10, o_ald 2, o_ald 0, o_ild 3, o_ic (nI 1), o_add, o_ald4 31, o_callI 295 2 11, o_ceq 1185, o_ic (nI 0), o_zret, o_ald 1, o_ald 0, o_ild 3, o_ic (nI 1), o_add, o_ald4 31, o_ald 0, o_ild 3, o_ic (nI 2), o_add, o_ald4 31, o_callI 161 3 10, o_ald 2, o_ald 0, o_ild 3, o_ic (nI 1), o_add, o_ald4 31, o_ald 0, o_ild 3, o_ic (nI 2), o_add, o_ald4 31, o_callI 297 3 11, o_ceq 1185, o_ic (nI 0), o_zret, o_ald 1, o_ald 0, o_ild 3, o_ic (nI 1), o_add, o_ald4 31, o_callI 162 2 10, o_ald 2, o_ald 0, o_ild 3, o_ic (nI 1), o_add, o_ald4 31, o_callI 301 2 11, o_ceq 1185, o_ic (nI 0), o_zret, o_ald 1, o_ald 0, o_ild 3, o_ic (nI 1), o_add, o_ald4 31, o_callI 163 2 10, o_ald 2, o_ald 0, o_ild 3, o_ic (nI 1), o_add, o_ald4 31, o_callI 302 2 11, o_ceq 1185, o_ic (nI 0), o_zret, o_ald 1, o_ald 0, o_ild 3, o_ic (nI 1), o_add, o_ald4 31, o_callI 164 2 10, o_ald 2, o_ald 0, o_ild 3, o_ic (nI 1), o_add, o_ald4 31, o_callI 303 2 11, o_ceq 1185, o_ic (nI 0), o_zret, o_ald 1, o_ald 0, o_ild 3, o_ic (nI 1), o_add, o_ald4 31, o_ald 0, o_ild 3, o_ic (nI 2), o_add, o_ald4 31, o_callI 165 3 10, o_ald 2, o_ald 0, o_ild 3, o_ic (nI 1), o_add, o_ald4 31, o_ald 0, o_ild 3, o_ic (nI 2), o_add, o_ald4 31, o_callI 305 3 11, o_ceq 1185, o_ic (nI 0), o_zret, o_ald 1, o_ald 0, o_ild 3, o_ic (nI 1), o_add, o_ald4 31, o_callI 166 2 10, o_ald 2, o_ald 0, o_ild 3, o_ic (nI 1), o_add, o_ald4 31, o_callI 306 2 11, o_ceq 1185, o_ic (nI 0), o_zret, o_ald 1, o_callI 167 1 10, o_ald 2, o_callI 307 1 11, o_ceq 1185, o_ic (nI 0), o_zret, o_ald 1, o_ald 0, o_ild 3, o_ic (nI 1), o_add, o_ald4 31, o_callI 168 2 10, o_ald 2, o_ald 0, o_ild 3, o_ic (nI 1), o_add, o_ald4 31, o_callI 230 2 11, o_ceq 1185, o_ic (nI 0), o_zret, o_ald 1, o_ald 0, o_ild 3, o_ic (nI 1), o_add, o_ald4 31, o_callI 169 2 10, o_ald 2, o_ald 0, o_ild 3, o_ic (nI 1), o_add, o_ald4 31, o_callI 231 2 11, o_ceq 1185, o_ic (nI 0), o_zret, o_ald 1, o_ald 0, o_ild 3, o_ic (nI 1), o_add, o_ald4 31, o_callI 170 2 10, o_ald 2, o_ald 0, o_ild 3, o_ic (nI 1), o_add, o_ald4 31, o_callI 232 2 11, o_ceq 1185, o_ic (nI 0), o_zret, o_ald 1, o_ald 0, o_ild 3, o_ic (nI 1), o_add, o_ald4 31, o_callI 171 2 10, o_ald 2, o_ald 0, o_ild 3, o_ic (nI 1), o_add, o_ald4 31, o_callI 308 2 11, o_ceq 1185, o_ic (nI 0), o_zret, o_inc 3 (nI 6), o_goto 10, o_ic (nI 1), o_zret] := mA (i := 120) (ok_ald_n (f := 2) (pc := 362) rfl rfl rfl (by decide +kernel)) (
  mA (i := 121) (ok_ald_n (f := 0) (pc := 363) rfl rfl rfl (by decide +kernel)) (
  mA (i := 122) (ok_ild_n (f := 3) (pc := 364) rfl rfl rfl (by decide +kernel)) (
  mA (i := 123) (ok_ic (n := 1) (pc := 365) (by decide +kernel) rfl rfl (by decide +kernel)) (
  mA (i := 124) (ok_add (pc := 366) rfl rfl (by decide +kernel)) (
  mA (i := 125) (ok_sald (pc := 367) rfl rfl (by decide +kernel)) (
  mA (i := 126) (ok_callI (pc := 368) (can_V cal_N_apply (by decide +kernel) rfl (by decide +kernel) rfl wd_863 wd_864 wd_865 wd_605 (by decide +kernel)) rfl rfl) (
  mA (i := 127) (ok_ceq (off := 1330) (pc := 371) (tgt := 1701) rfl rfl rfl (by decide +kernel) (by decide +kernel)) (
  mA (i := 128) (ok_ic (n := 0) (pc := 374) (by decide +kernel) rfl rfl (by decide +kernel)) (
  mA (i := 129) (ok_zret (pc := 375) rfl rfl (by decide +kernel)) (
  mA (i := 130) (ok_ald_n (f := 1) (pc := 376) rfl rfl rfl (by decide +kernel)) (
  mA (i := 131) (ok_ald_n (f := 0) (pc := 377) rfl rfl rfl (by decide +kernel)) (
  mA (i := 132) (ok_ild_n (f := 3) (pc := 378) rfl rfl rfl (by decide +kernel)) (
  mA (i := 133) (ok_ic (n := 1) (pc := 379) (by decide +kernel) rfl rfl (by decide +kernel)) (
  mA (i := 134) (ok_add (pc := 380) rfl rfl (by decide +kernel)) (
  mA (i := 135) (ok_sald (pc := 381) rfl rfl (by decide +kernel)) (
  mA (i := 136) (ok_callI (pc := 382) (can_V cal_C_fault (by decide +kernel) rfl (by decide +kernel) rfl wd_866 wd_867 wd_868 wd_35 (by decide +kernel)) rfl rfl) (
  mA (i := 137) (ok_ald_n (f := 2) (pc := 385) rfl rfl rfl (by decide +kernel)) (
  mA (i := 138) (ok_ald_n (f := 0) (pc := 386) rfl rfl rfl (by decide +kernel)) (
  mA (i := 139) (ok_ild_n (f := 3) (pc := 387) rfl rfl rfl (by decide +kernel)) (
  mA (i := 140) (ok_ic (n := 1) (pc := 388) (by decide +kernel) rfl rfl (by decide +kernel)) (
  mA (i := 141) (ok_add (pc := 389) rfl rfl (by decide +kernel)) (
  mA (i := 142) (ok_sald (pc := 390) rfl rfl (by decide +kernel)) (
  mA (i := 143) (ok_callI (pc := 391) (can_V cal_N_fault (by decide +kernel) rfl (by decide +kernel) rfl wd_869 wd_870 wd_871 wd_605 (by decide +kernel)) rfl rfl) (
  mA (i := 144) (ok_ceq (off := 1307) (pc := 394) (tgt := 1701) rfl rfl rfl (by decide +kernel) (by decide +kernel)) (
  mA (i := 145) (ok_ic (n := 0) (pc := 397) (by decide +kernel) rfl rfl (by decide +kernel)) (
  mA (i := 146) (ok_zret (pc := 398) rfl rfl (by decide +kernel)) (
  mA (i := 147) (ok_ald_n (f := 1) (pc := 399) rfl rfl rfl (by decide +kernel)) (
  mA (i := 148) (ok_ald_n (f := 0) (pc := 400) rfl rfl rfl (by decide +kernel)) (
  mA (i := 149) (ok_ild_n (f := 3) (pc := 401) rfl rfl rfl (by decide +kernel)) (
  mA (i := 150) (ok_ic (n := 1) (pc := 402) (by decide +kernel) rfl rfl (by decide +kernel)) (
  mA (i := 151) (ok_add (pc := 403) rfl rfl (by decide +kernel)) (
  mA (i := 152) (ok_sald (pc := 404) rfl rfl (by decide +kernel)) (
  mA (i := 153) (ok_callI (pc := 405) (can_V cal_C_take (by decide +kernel) rfl (by decide +kernel) rfl wd_872 wd_873 wd_874 wd_35 (by decide +kernel)) rfl rfl) (
  mA (i := 154) (ok_ald_n (f := 2) (pc := 408) rfl rfl rfl (by decide +kernel)) (
  mA (i := 155) (ok_ald_n (f := 0) (pc := 409) rfl rfl rfl (by decide +kernel)) (
  mA (i := 156) (ok_ild_n (f := 3) (pc := 410) rfl rfl rfl (by decide +kernel)) (
  mA (i := 157) (ok_ic (n := 1) (pc := 411) (by decide +kernel) rfl rfl (by decide +kernel)) (
  mA (i := 158) (ok_add (pc := 412) rfl rfl (by decide +kernel)) (
  mA (i := 159) (ok_sald (pc := 413) rfl rfl (by decide +kernel)) (
  mA (i := 160) (ok_callI (pc := 414) (can_V cal_N_take (by decide +kernel) rfl (by decide +kernel) rfl wd_875 wd_876 wd_877 wd_605 (by decide +kernel)) rfl rfl) (
  mA (i := 161) (ok_ceq (off := 1284) (pc := 417) (tgt := 1701) rfl rfl rfl (by decide +kernel) (by decide +kernel)) (
  mA (i := 162) (ok_ic (n := 0) (pc := 420) (by decide +kernel) rfl rfl (by decide +kernel)) (
  mA (i := 163) (ok_zret (pc := 421) rfl rfl (by decide +kernel)) (
  mA (i := 164) (ok_ald_n (f := 1) (pc := 422) rfl rfl rfl (by decide +kernel)) (
  mA (i := 165) (ok_callI (pc := 423) (can_V cal_C_keep (by decide +kernel) rfl (by decide +kernel) rfl wd_878 wd_879 wd_880 wd_35 (by decide +kernel)) rfl rfl) (
  mA (i := 166) (ok_ald_n (f := 2) (pc := 426) rfl rfl rfl (by decide +kernel)) (
  mA (i := 167) (ok_callI (pc := 427) (can_V cal_N_keep (by decide +kernel) rfl (by decide +kernel) rfl wd_881 wd_882 wd_883 wd_605 (by decide +kernel)) rfl rfl) (
  mA (i := 168) (ok_ceq (off := 1271) (pc := 430) (tgt := 1701) rfl rfl rfl (by decide +kernel) (by decide +kernel)) (
  mA (i := 169) (ok_ic (n := 0) (pc := 433) (by decide +kernel) rfl rfl (by decide +kernel)) (
  mA (i := 170) (ok_zret (pc := 434) rfl rfl (by decide +kernel)) (
  mA (i := 171) (ok_ald_n (f := 1) (pc := 435) rfl rfl rfl (by decide +kernel)) (
  mA (i := 172) (ok_ald_n (f := 0) (pc := 436) rfl rfl rfl (by decide +kernel)) (
  mA (i := 173) (ok_ild_n (f := 3) (pc := 437) rfl rfl rfl (by decide +kernel)) (
  mA (i := 174) (ok_ic (n := 1) (pc := 438) (by decide +kernel) rfl rfl (by decide +kernel)) (
  mA (i := 175) (ok_add (pc := 439) rfl rfl (by decide +kernel)) (
  mA (i := 176) (ok_sald (pc := 440) rfl rfl (by decide +kernel)) (
  mA (i := 177) (ok_callI (pc := 441) (can_V cal_C_remove (by decide +kernel) rfl (by decide +kernel) rfl wd_884 wd_885 wd_886 wd_35 (by decide +kernel)) rfl rfl) (
  mA (i := 178) (ok_ald_n (f := 2) (pc := 444) rfl rfl rfl (by decide +kernel)) (
  mA (i := 179) (ok_ald_n (f := 0) (pc := 445) rfl rfl rfl (by decide +kernel)) (
  ok_Lw_law_t180))))))))))))))))))))))))))))))))))))))))))))))))))))))))))))
set_option maxRecDepth 20000 in
theorem ok_Lw_law_t60 : mAll (mOk RL cL_law 4 true false (some .boolean) (mnat p_Lw_law)) 60 [o_ald 0, o_ild 3, o_ic (nI 3), o_add, o_ald4 31, o_ald 0, o_ild 3, o_ic (nI 4), o_add, o_ald4 31, o_ald 0, o_ild 3, o_ic (nI 5), o_add, o_ald4 31, o_callI 202 6 11, o_ceq 1185, o_ic (nI 0), o_zret, o_ald 1, o_ald 0, o_ild 3, o_ic (nI 1), o_add, o_ald4 31, o_callI 124 2 10, o_ald 2, o_ald 0, o_ild 3, o_ic (nI 1), o_add, o_ald4 31, o_callI 217 2 11, o_ceq 1185, o_ic (nI 0), o_zret, o_ald 1, o_ald 0, o_ild 3, o_ic (nI 1), o_add, o_ald4 31, o_callI 125 2 10, o_ald 2, o_ald 0, o_ild 3, o_ic (nI 1), o_add, o_ald4 31, o_callI 218 2 11, o_ceq 1185, o_ic (nI 0), o_zret, o_ald 1, o_ald 0, o_ild 3, o_ic (nI 1), o_add, o_ald4 31, o_callI 126 2 10, o_ald 2, o_ald 0, o_ild 3, o_ic (nI 1), o_add, o_ald4 31, o_callI 222 2 11, o_ceq 1185, o_ic (nI 0), o_zret, o_ald 1, o_ald 0, o_ild 3, o_ic (nI 1), o_add, o_ald4 31, o_callI 127 2 10, o_ald 2, o_ald 0, o_ild 3, o_ic (nI 1), o_add, o_ald4 31, o_callI 223 2 11, o_ceq 1185, o_ic (nI 0), o_zret, o_ald 1, o_ald 0, o_ild 3, o_ic (nI 1), o_add, o_ald4 31, o_callI 128 2 10, o_ald 2, o_ald 0, o_ild 3, o_ic (nI 1), o_add, o_ald4 31, o_callI 225 2 11, o_ceq 1185, o_ic (nI 0), o_zret, o_ald 1, o_callI 129 1 10, o_ald 2, o_callI 226 1 11, o_ceq 1185, o_ic (nI 0), o_zret, o_ald 1, o_ald 0, o_ild 3, o_ic (nI 1), o_add, o_ald4 31, o_callI 130 2 10, o_ald 2, o_ald 0, o_ild 3, o_ic (nI 1), o_add, o_ald4 31, o_callI 228 2 11, o_ceq 1185, o_ic (nI 0), o_zret, o_ald 1, o_ald 0, o_ild 3, o_ic (nI 1), o_add, o_ald4 31, o_callI 131 2 10, o_ald 2, o_ald 0, o_ild 3, o_ic (nI 1), o_add, o_ald4 31, o_callI 233 2 11, o_ceq 1185, o_ic (nI 0), o_zret, o_ald 1, o_ald 0, o_ild 3, o_ic (nI 1), o_add, o_ald4 31, o_ald 0, o_ild 3, o_ic (nI 2), o_add, o_ald4 31, o_ald 0, o_ild 3, o_ic (nI 3), o_add, o_ald4 31, o_callI 132 4 10, o_ald 2, o_ald 0, o_ild 3, o_ic (nI 1), o_add, o_ald4 31, o_ald 0, o_ild 3, o_ic (nI 2), o_add, o_ald4 31, o_ald 0, o_ild 3, o_ic (nI 3), o_add, o_ald4 31, o_callI 234 4 11, o_ceq 1185, o_ic (nI 0), o_zret, o_ald 1, o_ald 0, o_ild 3, o_ic (nI 1), o_add, o_ald4 31, o_ald 0, o_ild 3, o_ic (nI 2), o_add, o_ald4 31, o_callI 133 3 10, o_ald 2, o_ald 0, o_ild 3, o_ic (nI 1), o_add, o_ald4 31, o_ald 0, o_ild 3, o_ic (nI 2), o_add, o_ald4 31, o_callI 235 3 11, o_ceq 1185, o_ic (nI 0), o_zret, o_ald 1, o_ald 0, o_ild 3, o_ic (nI 1), o_add, o_ald4 31, o_callI 134 2 10, o_ald 2, o_ald 0, o_ild 3, o_ic (nI 1), o_add, o_ald4 31, o_callI 238 2 11, o_ceq 1185, o_ic (nI 0), o_zret, o_ald 1, o_ald 0, o_ild 3, o_ic (nI 1), o_add, o_ald4 31, o_callI 135 2 10, o_ald 2, o_ald 0, o_ild 3, o_ic (nI 1), o_add, o_ald4 31, o_callI 240 2 11, o_ceq 1185, o_ic (nI 0), o_zret, o_ald 1, o_ald 0, o_ild 3, o_ic (nI 1), o_add, o_ald4 31, o_ald 0, o_ild 3, o_ic (nI 2), o_add, o_ald4 31, o_callI 136 3 10, o_ald 2, o_ald 0, o_ild 3, o_ic (nI 1), o_add, o_ald4 31, o_ald 0, o_ild 3, o_ic (nI 2), o_add, o_ald4 31, o_callI 261 3 11, o_ceq 1185, o_ic (nI 0), o_zret, o_ald 1, o_ald 0, o_ild 3, o_ic (nI 1), o_add, o_ald4 31, o_ald 0, o_ild 3, o_ic (nI 2), o_add, o_ald4 31, o_ald 0, o_ild 3, o_ic (nI 3), o_add, o_ald4 31, o_callI 137 4 10, o_ald 2, o_ald 0, o_ild 3, o_ic (nI 1), o_add, o_ald4 31, o_ald 0, o_ild 3, o_ic (nI 2), o_add, o_ald4 31, o_ald 0, o_ild 3, o_ic (nI 3), o_add, o_ald4 31, o_callI 250 4 11, o_ceq 1185, o_ic (nI 0), o_zret, o_ald 1, o_ald 0, o_ild 3, o_ic (nI 1), o_add, o_ald4 31, o_ald 0, o_ild 3, o_ic (nI 2), o_add, o_ald4 31, o_ald 0, o_ild 3, o_ic (nI 3), o_add, o_ald4 31, o_callI 138 4 10, o_ald 2, o_ald 0, o_ild 3, o_ic (nI 1), o_add, o_ald4 31, o_ald 0, o_ild 3, o_ic (nI 2), o_add, o_ald4 31, o_ald 0, o_ild 3, o_ic (nI 3), o_add, o_ald4 31, o_callI 251 4 11, o_ceq 1185, o_ic (nI 0), o_zret, o_ald 1, o_ald 0, o_ild 3, o_ic (nI 1), o_add, o_ald4 31, o_ald 0, o_ild 3, o_ic (nI 2), o_add, o_ald4 31, o_ald 0, o_ild 3, o_ic (nI 3), o_add, o_ald4 31, o_ald 0, o_ild 3, o_ic (nI 4), o_add, o_ald4 31, o_callI 139 5 10, o_ald 2, o_ald 0, o_ild 3, o_ic (nI 1), o_add, o_ald4 31, o_ald 0, o_ild 3, o_ic (nI 2), o_add, o_ald4 31, o_ald 0, o_ild 3, o_ic (nI 3), o_add, o_ald4 31, o_ald 0, o_ild 3, o_ic (nI 4), o_add, o_ald4 31, o_callI 252 5 11, o_ceq 1185, o_ic (nI 0), o_zret, o_ald 1, o_ald 0, o_ild 3, o_ic (nI 1), o_add, o_ald4 31, o_ald 0, o_ild 3, o_ic (nI 2), o_add, o_ald4 31, o_ald 0, o_ild 3, o_ic (nI 3), o_add, o_ald4 31, o_ald 0, o_ild 3, o_ic (nI 4), o_add, o_ald4 31, o_ald 0, o_ild 3, o_ic (nI 5), o_add, o_ald4 31, o_callI 140 6 10, o_ald 2, o_ald 0, o_ild 3, o_ic (nI 1), o_add, o_ald4 31, o_ald 0, o_ild 3, o_ic (nI 2), o_add, o_ald4 31, o_ald 0, o_ild 3, o_ic (nI 3), o_add, o_ald4 31, o_ald 0, o_ild 3, o_ic (nI 4), o_add, o_ald4 31, o_ald 0, o_ild 3, o_ic (nI 5), o_add, o_ald4 31, o_callI 253 6 11, o_ceq 1185, o_ic (nI 0), o_zret, o_ald 1, o_ald 0, o_ild 3, o_ic (nI 1), o_add, o_ald4 31, o_ald 0, o_ild 3, o_ic (nI 2), o_add, o_ald4 31, o_callI 141 3 10, o_ald 2, o_ald 0, o_ild 3, o_ic (nI 1), o_add, o_ald4 31, o_ald 0, o_ild 3, o_ic (nI 2), o_add, o_ald4 31, o_callI 255 3 11, o_ceq 1185, o_ic (nI 0), o_zret, o_ald 1, o_ald 0, o_ild 3, o_ic (nI 1), o_add, o_ald4 31, o_ald 0, o_ild 3, o_ic (nI 2), o_add, o_ald4 31, o_ald 0, o_ild 3, o_ic (nI 3), o_add, o_ald4 31, o_callI 142 4 10, o_ald 2, o_ald 0, o_ild 3, o_ic (nI 1), o_add, o_ald4 31, o_ald 0, o_ild 3, o_ic (nI 2), o_add, o_ald4 31, o_ald 0, o_ild 3, o_ic (nI 3), o_add, o_ald4 31, o_callI 259 4 11, o_ceq 1185, o_ic (nI 0), o_zret, o_ald 1, o_ald 0, o_ild 3, o_ic (nI 1), o_add, o_ald4 31, o_ald 0, o_ild 3, o_ic (nI 2), o_add, o_ald4 31, o_callI 143 3 10, o_ald 2, o_ald 0, o_ild 3, o_ic (nI 1), o_add, o_ald4 31, o_ald 0, o_ild 3, o_ic (nI 2), o_add, o_ald4 31, o_callI 254 3 11, o_ceq 1185, o_ic (nI 0), o_zret, o_ald 1, o_ald 0, o_ild 3, o_ic (nI 1), o_add, o_ald4 31, o_ald 0, o_ild 3, o_ic (nI 2), o_add, o_ald4 31, o_ald 0, o_ild 3, o_ic (nI 3), o_add, o_ald4 31, o_callI 144 4 10, o_ald 2, o_ald 0, o_ild 3, o_ic (nI 1), o_add, o_ald4 31, o_ald 0, o_ild 3, o_ic (nI 2), o_add, o_ald4 31, o_ald 0, o_ild 3, o_ic (nI 3), o_add, o_ald4 31, o_callI 267 4 11, o_ceq 1185, o_ic (nI 0), o_zret, o_ald 1, o_ald 0, o_ild 3, o_ic (nI 1), o_add, o_ald4 31, o_ald 0, o_ild 3, o_ic (nI 2), o_add, o_ald4 31, o_callI 145 3 10, o_ald 2, o_ald 0, o_ild 3, o_ic (nI 1), o_add, o_ald4 31, o_ald 0, o_ild 3, o_ic (nI 2), o_add, o_ald4 31, o_callI 268 3 11, o_ceq 1185, o_ic (nI 0), o_zret, o_ald 1, o_ald 0, o_ild 3, o_ic (nI 1), o_add, o_ald4 31, o_ald 0, o_ild 3, o_ic (nI 2), o_add, o_ald4 31, o_callI 146 3 10, o_ald 2, o_ald 0, o_ild 3, o_ic (nI 1), o_add, o_ald4 31, o_ald 0, o_ild 3, o_ic (nI 2), o_add, o_ald4 31, o_callI 269 3 11, o_ceq 1185, o_ic (nI 0), o_zret, o_ald 1, o_ald 0, o_ild 3, o_ic (nI 1), o_add, o_ald4 31, o_ald 0, o_ild 3, o_ic (nI 2), o_add, o_ald4 31, o_callI 147 3 10, o_ald 2, o_ald 0, o_ild 3, o_ic (nI 1), o_add, o_ald4 31, o_ald 0, o_ild 3, o_ic (nI 2), o_add, o_ald4 31, o_callI 272 3 11, o_ceq 1185, o_ic (nI 0), o_zret, o_ald 1, o_ald 0, o_ild 3, o_ic (nI 1), o_add, o_ald4 31, o_callI 148 2 10, o_ald 2, o_ald 0, o_ild 3, o_ic (nI 1), o_add, o_ald4 31, o_callI 273 2 11, o_ceq 1185, o_ic (nI 0), o_zret, o_ald 1, o_callI 149 1 10, o_ald 2, o_callI 274 1 11, o_ceq 1185, o_ic (nI 0), o_zret, o_ald 1, o_ald 0, o_ild 3, o_ic (nI 1), o_add, o_ald4 31, o_callI 150 2 10, o_ald 2, o_ald 0, o_ild 3, o_ic (nI 1), o_add, o_ald4 31, o_callI 275 2 11, o_ceq 1185, o_ic (nI 0), o_zret, o_ald 1, o_callI 151 1 10, o_ald 2, o_callI 280 1 11, o_ceq 1185, o_ic (nI 0), o_zret, o_ald 1, o_ald 0, o_ild 3, o_ic (nI 1), o_add, o_ald4 31, o_ald 0, o_ild 3, o_ic (nI 2), o_add, o_ald4 31, o_callI 152 3 10, o_ald 2, o_ald 0, o_ild 3, o_ic (nI 1), o_add, o_ald4 31, o_ald 0, o_ild 3, o_ic (nI 2), o_add, o_ald4 31, o_callI 281 3 11, o_ceq 1185, o_ic (nI 0), o_zret, o_ald 1, o_ald 0, o_ild 3, o_ic (nI 1), o_add, o_ald4 31, o_callI 153 2 10, o_ald 2, o_ald 0, o_ild 3, o_ic (nI 1), o_add, o_ald4 31, o_callI 282 2 11, o_ceq 1185, o_ic (nI 0), o_zret, o_ald 1, o_ald 0, o_ild 3, o_ic (nI 1), o_add, o_ald4 31, o_ald 0, o_ild 3, o_ic (nI 2), o_add, o_ald4 31, o_callI 154 3 10, o_ald 2, o_ald 0, o_ild 3, o_ic (nI 1), o_add, o_ald4 31, o_ald 0, o_ild 3, o_ic (nI 2), o_add, o_ald4 31, o_callI 289 3 11, o_ceq 1185, o_ic (nI 0), o_zret, o_ald 1, o_ald 0, o_ild 3, o_ic (nI 1), o_add, o_ald4 31, o_ald 0, o_ild 3, o_ic (nI 2), o_add, o_ald4 31, o_callI 155 3 10, o_ald 2, o_ald 0, o_ild 3, o_ic (nI 1), o_add, o_ald4 31, o_ald 0, o_ild 3, o_ic (nI 2), o_add, o_ald4 31, o_callI 290 3 11, o_ceq 1185, o_ic (nI 0), o_zret, o_ald 1, o_ald 0, o_ild 3, o_ic (nI 1), o_add, o_ald4 31, o_ald 0, o_ild 3, o_ic (nI 2), o_add, o_ald4 31, o_callI 156 3 10, o_ald 2, o_ald 0, o_ild 3, o_ic (nI 1), o_add, o_ald4 31, o_ald 0, o_ild 3, o_ic (nI 2), o_add, o_ald4 31, o_callI 285 3 11, o_ceq 1185, o_ic (nI 0), o_zret, o_ald 1, o_ald 0, o_ild 3, o_ic (nI 1), o_add, o_ald4 31, o_ald 0, o_ild 3, o_ic (nI 2), o_add, o_ald4 31, o_callI 157 3 10, o_ald 2, o_ald 0, o_ild 3, o_ic (nI 1), o_add, o_ald4 31, o_ald 0, o_ild 3, o_ic (nI 2), o_add, o_ald4 31, o_callI 287 3 11, o_ceq 1185, o_ic (nI 0), o_zret, o_ald 1, o_ald 0, o_ild 3, o_ic (nI 1), o_add, o_ald4 31, o_ald 0, o_ild 3, o_ic (nI 2), o_add, o_ald4 31, o_callI 158 3 10, o_ald 2, o_ald 0, o_ild 3, o_ic (nI 1), o_add, o_ald4 31, o_ald 0, o_ild 3, o_ic (nI 2), o_add, o_ald4 31, o_callI 286 3 11, o_ceq 1185, o_ic (nI 0), o_zret, o_ald 1, o_ald 0, o_ild 3, o_ic (nI 1), o_add, o_ald4 31, o_ald 0, o_ild 3, o_ic (nI 2), o_add, o_ald4 31, o_callI 159 3 10, o_ald 2, o_ald 0, o_ild 3, o_ic (nI 1), o_add, o_ald4 31, o_ald 0, o_ild 3, o_ic (nI 2), o_add, o_ald4 31, o_callI 293 3 11, o_ceq 1185, o_ic (nI 0), o_zret, o_ald 1, o_ald 0, o_ild 3, o_ic (nI 1), o_add, o_ald4 31, o_callI 160 2 10, o_ald 2, o_ald 0, o_ild 3, o_ic (nI 1), o_add, o_ald4 31, o_callI 295 2 11, o_ceq 1185, o_ic (nI 0), o_zret, o_ald 1, o_ald 0, o_ild 3, o_ic (nI 1), o_add, o_ald4 31, o_ald 0, o_ild 3, o_ic (nI 2), o_add, o_ald4 31, o_callI 161 3 10, o_ald 2, o_ald 0, o_ild 3, o_ic (nI 1), o_add, o_ald4 31, o_ald 0, o_ild 3, o_ic (nI 2), o_add, o_ald4 31, o_callI 297 3 11, o_ceq 1185, o_ic (nI 0), o_zret, o_ald 1, o_ald 0, o_ild 3, o_ic (nI 1), o_add, o_ald4 31, o_callI 162 2 10, o_ald 2, o_ald 0, o_ild 3, o_ic (nI 1), o_add, o_ald4 31, o_callI 301 2 11, o_ceq 1185, o_ic (nI 0), o_zret, o_ald 1, o_ald 0, o_ild 3, o_ic (nI 1), o_add, o_ald4 31, o_callI 163 2 10, o_ald 2, o_ald 0, o_ild 3, o_ic (nI 1), o_add, o_ald4 31, o_callI 302 2 11, o_ceq 1185, o_ic (nI 0), o_zret, o_ald 1, o_ald 0, o_ild 3, o_ic (nI 1), o_add, o_ald4 31, o_callI 164 2 10, o_ald 2, o_ald 0, o_ild 3, o_ic (nI 1), o_add, o_ald4 31, o_callI 303 2 11, o_ceq 1185, o_ic (nI 0), o_zret, o_ald 1, o_ald 0, o_ild 3, o_ic (nI 1), o_add, o_ald4 31, o_ald 0, o_ild 3, o_ic (nI 2), o_add, o_ald4 31, o_callI 165 3 10, o_ald 2, o_ald 0, o_ild 3, o_ic (nI 1), o_add, o_ald4 31, o_ald 0, o_ild 3, o_ic (nI 2), o_add, o_ald4 31, o_callI 305 3 11, o_ceq 1185, o_ic (nI 0), o_zret, o_ald 1, o_ald 0, o_ild 3, o_ic (nI 1), o_add, o_ald4 31, o_callI 166 2 10, o_ald 2, o_ald 0, o_ild 3, o_ic (nI 1), o_add, o_ald4 31, o_callI 306 2 11, o_ceq 1185, o_ic (nI 0), o_zret, o_ald 1, o_callI 167 1 10, o_ald 2, o_callI 307 1 11, o_ceq 1185, o_ic (nI 0), o_zret, o_ald 1, o_ald 0, o_ild 3, o_ic (nI 1), o_add, o_ald4 31, o_callI 168 2 10, o_ald 2, o_ald 0, o_ild 3, o_ic (nI 1), o_add, o_ald4 31, o_callI 230 2 11, o_ceq 1185, o_ic (nI 0), o_zret, o_ald 1, o_ald 0, o_ild 3, o_ic (nI 1), o_add, o_ald4 31, o_callI 169 2 10, o_ald 2, o_ald 0, o_ild 3, o_ic (nI 1), o_add, o_ald4 31, o_callI 231 2 11, o_ceq 1185, o_ic (nI 0), o_zret, o_ald 1, o_ald 0, o_ild 3, o_ic (nI 1), o_add, o_ald4 31, o_callI 170 2 10, o_ald 2, o_ald 0, o_ild 3, o_ic (nI 1), o_add, o_ald4 31, o_callI 232 2 11, o_ceq 1185, o_ic (nI 0), o_zret, o_ald 1, o_ald 0, o_ild 3, o_ic (nI 1), o_add, o_ald4 31, o_callI 171 2 10, o_ald 2, o_ald 0, o_ild 3, o_ic (nI 1), o_add, o_ald4 31, o_callI 308 2 11, o_ceq 1185, o_ic (nI 0), o_zret, o_inc 3 (nI 6), o_goto 10, o_ic (nI 1), o_zret] := mA (i := 60) (ok_ald_n (f := 0) (pc := 284) rfl rfl rfl (by decide +kernel)) (
  mA (i := 61) (ok_ild_n (f := 3) (pc := 285) rfl rfl rfl (by decide +kernel)) (
  mA (i := 62) (ok_ic (n := 3) (pc := 286) (by decide +kernel) rfl rfl (by decide +kernel)) (
  mA (i := 63) (ok_add (pc := 287) rfl rfl (by decide +kernel)) (
  mA (i := 64) (ok_sald (pc := 288) rfl rfl (by decide +kernel)) (
  mA (i := 65) (ok_ald_n (f := 0) (pc := 289) rfl rfl rfl (by decide +kernel)) (
  mA (i := 66) (ok_ild_n (f := 3) (pc := 290) rfl rfl rfl (by decide +kernel)) (
  mA (i := 67) (ok_ic (n := 4) (pc := 291) (by decide +kernel) rfl rfl (by decide +kernel)) (
  mA (i := 68) (ok_add (pc := 292) rfl rfl (by decide +kernel)) (
  mA (i := 69) (ok_sald (pc := 293) rfl rfl (by decide +kernel)) (
  mA (i := 70) (ok_ald_n (f := 0) (pc := 294) rfl rfl rfl (by decide +kernel)) (
  mA (i := 71) (ok_ild_n (f := 3) (pc := 295) rfl rfl rfl (by decide +kernel)) (
  mA (i := 72) (ok_ic (n := 5) (pc := 296) (by decide +kernel) rfl rfl (by decide +kernel)) (
  mA (i := 73) (ok_add (pc := 297) rfl rfl (by decide +kernel)) (
  mA (i := 74) (ok_sald (pc := 298) rfl rfl (by decide +kernel)) (
  mA (i := 75) (ok_callI (pc := 299) (can_V cal_N_feed (by decide +kernel) rfl (by decide +kernel) rfl wd_845 wd_846 wd_847 wd_605 (by decide +kernel)) rfl rfl) (
  mA (i := 76) (ok_ceq (off := 1399) (pc := 302) (tgt := 1701) rfl rfl rfl (by decide +kernel) (by decide +kernel)) (
  mA (i := 77) (ok_ic (n := 0) (pc := 305) (by decide +kernel) rfl rfl (by decide +kernel)) (
  mA (i := 78) (ok_zret (pc := 306) rfl rfl (by decide +kernel)) (
  mA (i := 79) (ok_ald_n (f := 1) (pc := 307) rfl rfl rfl (by decide +kernel)) (
  mA (i := 80) (ok_ald_n (f := 0) (pc := 308) rfl rfl rfl (by decide +kernel)) (
  mA (i := 81) (ok_ild_n (f := 3) (pc := 309) rfl rfl rfl (by decide +kernel)) (
  mA (i := 82) (ok_ic (n := 1) (pc := 310) (by decide +kernel) rfl rfl (by decide +kernel)) (
  mA (i := 83) (ok_add (pc := 311) rfl rfl (by decide +kernel)) (
  mA (i := 84) (ok_sald (pc := 312) rfl rfl (by decide +kernel)) (
  mA (i := 85) (ok_callI (pc := 313) (can_V cal_C_add (by decide +kernel) rfl (by decide +kernel) rfl wd_848 wd_849 wd_850 wd_35 (by decide +kernel)) rfl rfl) (
  mA (i := 86) (ok_ald_n (f := 2) (pc := 316) rfl rfl rfl (by decide +kernel)) (
  mA (i := 87) (ok_ald_n (f := 0) (pc := 317) rfl rfl rfl (by decide +kernel)) (
  mA (i := 88) (ok_ild_n (f := 3) (pc := 318) rfl rfl rfl (by decide +kernel)) (
  mA (i := 89) (ok_ic (n := 1) (pc := 319) (by decide +kernel) rfl rfl (by decide +kernel)) (
  mA (i := 90) (ok_add (pc := 320) rfl rfl (by decide +kernel)) (
  mA (i := 91) (ok_sald (pc := 321) rfl rfl (by decide +kernel)) (
  mA (i := 92) (ok_callI (pc := 322) (can_V cal_N_add (by decide +kernel) rfl (by decide +kernel) rfl wd_851 wd_852 wd_853 wd_605 (by decide +kernel)) rfl rfl) (
  mA (i := 93) (ok_ceq (off := 1376) (pc := 325) (tgt := 1701) rfl rfl rfl (by decide +kernel) (by decide +kernel)) (
  mA (i := 94) (ok_ic (n := 0) (pc := 328) (by decide +kernel) rfl rfl (by decide +kernel)) (
  mA (i := 95) (ok_zret (pc := 329) rfl rfl (by decide +kernel)) (
  mA (i := 96) (ok_ald_n (f := 1) (pc := 330) rfl rfl rfl (by decide +kernel)) (
  mA (i := 97) (ok_ald_n (f := 0) (pc := 331) rfl rfl rfl (by decide +kernel)) (
  mA (i := 98) (ok_ild_n (f := 3) (pc := 332) rfl rfl rfl (by decide +kernel)) (
  mA (i := 99) (ok_ic (n := 1) (pc := 333) (by decide +kernel) rfl rfl (by decide +kernel)) (
  mA (i := 100) (ok_add (pc := 334) rfl rfl (by decide +kernel)) (
  mA (i := 101) (ok_sald (pc := 335) rfl rfl (by decide +kernel)) (
  mA (i := 102) (ok_callI (pc := 336) (can_V cal_C_query (by decide +kernel) rfl (by decide +kernel) rfl wd_854 wd_855 wd_856 wd_35 (by decide +kernel)) rfl rfl) (
  mA (i := 103) (ok_ald_n (f := 2) (pc := 339) rfl rfl rfl (by decide +kernel)) (
  mA (i := 104) (ok_ald_n (f := 0) (pc := 340) rfl rfl rfl (by decide +kernel)) (
  mA (i := 105) (ok_ild_n (f := 3) (pc := 341) rfl rfl rfl (by decide +kernel)) (
  mA (i := 106) (ok_ic (n := 1) (pc := 342) (by decide +kernel) rfl rfl (by decide +kernel)) (
  mA (i := 107) (ok_add (pc := 343) rfl rfl (by decide +kernel)) (
  mA (i := 108) (ok_sald (pc := 344) rfl rfl (by decide +kernel)) (
  mA (i := 109) (ok_callI (pc := 345) (can_V cal_N_query (by decide +kernel) rfl (by decide +kernel) rfl wd_857 wd_858 wd_859 wd_605 (by decide +kernel)) rfl rfl) (
  mA (i := 110) (ok_ceq (off := 1353) (pc := 348) (tgt := 1701) rfl rfl rfl (by decide +kernel) (by decide +kernel)) (
  mA (i := 111) (ok_ic (n := 0) (pc := 351) (by decide +kernel) rfl rfl (by decide +kernel)) (
  mA (i := 112) (ok_zret (pc := 352) rfl rfl (by decide +kernel)) (
  mA (i := 113) (ok_ald_n (f := 1) (pc := 353) rfl rfl rfl (by decide +kernel)) (
  mA (i := 114) (ok_ald_n (f := 0) (pc := 354) rfl rfl rfl (by decide +kernel)) (
  mA (i := 115) (ok_ild_n (f := 3) (pc := 355) rfl rfl rfl (by decide +kernel)) (
  mA (i := 116) (ok_ic (n := 1) (pc := 356) (by decide +kernel) rfl rfl (by decide +kernel)) (
  mA (i := 117) (ok_add (pc := 357) rfl rfl (by decide +kernel)) (
  mA (i := 118) (ok_sald (pc := 358) rfl rfl (by decide +kernel)) (
  mA (i := 119) (ok_callI (pc := 359) (can_V cal_C_apply (by decide +kernel) rfl (by decide +kernel) rfl wd_860 wd_861 wd_862 wd_35 (by decide +kernel)) rfl rfl) (
  ok_Lw_law_t120))))))))))))))))))))))))))))))))))))))))))))))))))))))))))))
set_option maxRecDepth 20000 in
theorem ok_Lw_law : mAll (mOk RL cL_law 4 true false (some .boolean) (mnat p_Lw_law)) 0 k_Lw_law := mA (i := 0) (ok_new (pc := 0) rfl (by decide +kernel) tyX9_ok df_10 wd_834 wd_835 wd_35 inw_10 rfl rfl (by decide +kernel)) (
  mA (i := 1) (ok_dup (pc := 3) rfl rfl (by decide +kernel)) (
  mA (i := 2) (ok_callV (pc := 4) (can_Ik (by decide +kernel) cal_C_init (by decide +kernel) rfl wd_837 wd_836 wd_35 (by decide +kernel)) rfl rfl) (
  mA (i := 3) (ok_ast_n (f := 1) (pc := 7) rfl (by decide +kernel) rfl rfl rfl (by decide +kernel)) (
  mA (i := 4) (ok_new (pc := 8) rfl (by decide +kernel) tyX10_ok df_11 wd_838 wd_839 wd_605 inw_11 rfl rfl (by decide +kernel)) (
  mA (i := 5) (ok_dup (pc := 11) rfl rfl (by decide +kernel)) (
  mA (i := 6) (ok_callV (pc := 12) (can_Ik (by decide +kernel) cal_N_init (by decide +kernel) rfl wd_841 wd_840 wd_605 (by decide +kernel)) rfl rfl) (
  mA (i := 7) (ok_ast_n (f := 2) (pc := 15) rfl (by decide +kernel) rfl rfl rfl (by decide +kernel)) (
  mA (i := 8) (ok_ic (n := 0) (pc := 16) (by decide +kernel) rfl rfl (by decide +kernel)) (
  mA (i := 9) (ok_ist_n (f := 3) (pc := 17) rfl (by decide +kernel) rfl rfl rfl (by decide +kernel)) (
  mA (i := 10) (ok_ild_n (f := 3) (pc := 18) rfl rfl rfl (by decide +kernel)) (
  mA (i := 11) (ok_ald_n (f := 0) (pc := 19) rfl rfl rfl (by decide +kernel)) (
  mA (i := 12) (ok_slen (pc := 20) rfl rfl (by decide +kernel)) (
  mA (i := 13) (ok_bi (n := 6) (pc := 21) (by decide +kernel) rfl rfl (by decide +kernel)) (
  mA (i := 14) (ok_sub (pc := 23) rfl rfl (by decide +kernel)) (
  mA (i := 15) (ok_cgt (off := 1683) (pc := 24) (tgt := 1707) rfl rfl rfl (by decide +kernel) (by decide +kernel)) (
  mA (i := 16) (ok_ald_n (f := 0) (pc := 27) rfl rfl rfl (by decide +kernel)) (
  mA (i := 17) (ok_ild_n (f := 3) (pc := 28) rfl rfl rfl (by decide +kernel)) (
  mA (i := 18) (ok_sald (pc := 29) rfl rfl (by decide +kernel)) (
  mA (i := 19) (ok_bi (n := 63) (pc := 30) (by decide +kernel) rfl rfl (by decide +kernel)) (
  mA (i := 20) (ok_and (pc := 32) rfl rfl (by decide +kernel)) (
  mA (i := 21) (ok_tsw (n := 49) (dflt := 1668) (offs := #[211, 274, 297, 320, 343, 366, 389, 402, 425, 448, 491, 524, 547, 570, 603, 646, 689, 742, 805, 838, 881, 914, 957, 990, 1023, 1056, 1079, 1092, 1115, 1128, 1161, 1184, 1217, 1250, 1283, 1316, 1349, 1382, 1405, 1438, 1461, 1484, 1507, 1540, 1563, 1576, 1599, 1622, 1645]) (len := 211) (pc := 33) (by decide +kernel) (by decide +kernel) (by decide +kernel) (by decide +kernel) rfl (by decide +kernel)) (
  mA (i := 22) (ok_ald_n (f := 1) (pc := 244) rfl rfl rfl (by decide +kernel)) (
  mA (i := 23) (ok_ald_n (f := 0) (pc := 245) rfl rfl rfl (by decide +kernel)) (
  mA (i := 24) (ok_ild_n (f := 3) (pc := 246) rfl rfl rfl (by decide +kernel)) (
  mA (i := 25) (ok_ic (n := 1) (pc := 247) (by decide +kernel) rfl rfl (by decide +kernel)) (
  mA (i := 26) (ok_add (pc := 248) rfl rfl (by decide +kernel)) (
  mA (i := 27) (ok_sald (pc := 249) rfl rfl (by decide +kernel)) (
  mA (i := 28) (ok_ald_n (f := 0) (pc := 250) rfl rfl rfl (by decide +kernel)) (
  mA (i := 29) (ok_ild_n (f := 3) (pc := 251) rfl rfl rfl (by decide +kernel)) (
  mA (i := 30) (ok_ic (n := 2) (pc := 252) (by decide +kernel) rfl rfl (by decide +kernel)) (
  mA (i := 31) (ok_add (pc := 253) rfl rfl (by decide +kernel)) (
  mA (i := 32) (ok_sald (pc := 254) rfl rfl (by decide +kernel)) (
  mA (i := 33) (ok_ald_n (f := 0) (pc := 255) rfl rfl rfl (by decide +kernel)) (
  mA (i := 34) (ok_ild_n (f := 3) (pc := 256) rfl rfl rfl (by decide +kernel)) (
  mA (i := 35) (ok_ic (n := 3) (pc := 257) (by decide +kernel) rfl rfl (by decide +kernel)) (
  mA (i := 36) (ok_add (pc := 258) rfl rfl (by decide +kernel)) (
  mA (i := 37) (ok_sald (pc := 259) rfl rfl (by decide +kernel)) (
  mA (i := 38) (ok_ald_n (f := 0) (pc := 260) rfl rfl rfl (by decide +kernel)) (
  mA (i := 39) (ok_ild_n (f := 3) (pc := 261) rfl rfl rfl (by decide +kernel)) (
  mA (i := 40) (ok_ic (n := 4) (pc := 262) (by decide +kernel) rfl rfl (by decide +kernel)) (
  mA (i := 41) (ok_add (pc := 263) rfl rfl (by decide +kernel)) (
  mA (i := 42) (ok_sald (pc := 264) rfl rfl (by decide +kernel)) (
  mA (i := 43) (ok_ald_n (f := 0) (pc := 265) rfl rfl rfl (by decide +kernel)) (
  mA (i := 44) (ok_ild_n (f := 3) (pc := 266) rfl rfl rfl (by decide +kernel)) (
  mA (i := 45) (ok_ic (n := 5) (pc := 267) (by decide +kernel) rfl rfl (by decide +kernel)) (
  mA (i := 46) (ok_add (pc := 268) rfl rfl (by decide +kernel)) (
  mA (i := 47) (ok_sald (pc := 269) rfl rfl (by decide +kernel)) (
  mA (i := 48) (ok_callI (pc := 270) (can_V cal_C_feed (by decide +kernel) rfl (by decide +kernel) rfl wd_842 wd_843 wd_844 wd_35 (by decide +kernel)) rfl rfl) (
  mA (i := 49) (ok_ald_n (f := 2) (pc := 273) rfl rfl rfl (by decide +kernel)) (
  mA (i := 50) (ok_ald_n (f := 0) (pc := 274) rfl rfl rfl (by decide +kernel)) (
  mA (i := 51) (ok_ild_n (f := 3) (pc := 275) rfl rfl rfl (by decide +kernel)) (
  mA (i := 52) (ok_ic (n := 1) (pc := 276) (by decide +kernel) rfl rfl (by decide +kernel)) (
  mA (i := 53) (ok_add (pc := 277) rfl rfl (by decide +kernel)) (
  mA (i := 54) (ok_sald (pc := 278) rfl rfl (by decide +kernel)) (
  mA (i := 55) (ok_ald_n (f := 0) (pc := 279) rfl rfl rfl (by decide +kernel)) (
  mA (i := 56) (ok_ild_n (f := 3) (pc := 280) rfl rfl rfl (by decide +kernel)) (
  mA (i := 57) (ok_ic (n := 2) (pc := 281) (by decide +kernel) rfl rfl (by decide +kernel)) (
  mA (i := 58) (ok_add (pc := 282) rfl rfl (by decide +kernel)) (
  mA (i := 59) (ok_sald (pc := 283) rfl rfl (by decide +kernel)) (
  ok_Lw_law_t60))))))))))))))))))))))))))))))))))))))))))))))))))))))))))))
