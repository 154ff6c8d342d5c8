/-! ===== what the tables say, looked up by places ===== -/
def jx_gw : List Cond := lw_tbl.filter goodWord
theorem jx_gw_good : GoodIn jx_gw jx_gw := fun w hw => ⟨hw, good_of_word (List.mem_filter.mp hw).2⟩
theorem jx_gw_tbl : GoodIn lw_tbl jx_gw := fun w hw => ⟨(List.mem_filter.mp hw).1, good_of_word (List.mem_filter.mp hw).2⟩
def jx_at (i : Nat) (w : Cond) : Bool := decide (lw_tbl[i]? = some w) && goodWord w
theorem jx_at_in {i : Nat} {w : Cond} (h : jx_at i w = true) : w ∈ jx_gw := by
  simp only [jx_at, Bool.and_eq_true, decide_eq_true_eq] at h
  exact List.mem_filter.mpr ⟨List.mem_of_getElem? h.1, h.2⟩
def jm_il : Instr → Nat
  | .bipush _ => 2
  | .sipush _ => 3
  | .iload _ => 2
  | .lload _ => 2
  | .aload _ => 2
  | .istore _ => 2
  | .lstore _ => 2
  | .astore _ => 2
  | .iinc _ _ => 3
  | .ifCond _ _ => 3
  | .if_icmp _ _ => 3
  | .goto _ => 3
  | .getfield _ => 3
  | .putfield _ => 3
  | .getstatic _ => 3
  | .ldc _ => 2
  | .ldc_w _ => 3
  | .ldc2_w _ => 3
  | .new _ => 3
  | .newarray _ => 2
  | .anewarray _ => 3
  | .invokestatic _ => 3
  | .invokevirtual _ => 3
  | .invokespecial _ => 3
  | .tableswitch _ _ _ _ => 0
  | _ => 1
def jx_ck (cc : ByteArray) (cd : jm_Cd) : Bool := cd.all (fun q => match decode cc q.1 with
  | .ok (i, n) => decide (i = q.2) && (Nat.beq (jm_il q.2) 0 || Nat.beq n (jm_il q.2))
  | .error _ => false)
theorem jx_look_in {cd : jm_Cd} {pc p : Nat} {i : Instr} (h : jm_look cd pc = some (p, i)) : p = pc ∧ (p, i) ∈ cd := by
  induction cd with
  | nil => cases h
  | cons q l ih =>
    obtain ⟨a, b⟩ := q
    unfold jm_look at h
    cases hb : Nat.beq a pc with
    | true =>
      rw [hb] at h
      cases h
      exact ⟨Nat.eq_of_beq_eq_true hb, List.mem_cons_self⟩
    | false =>
      rw [hb] at h
      obtain ⟨h1, h2⟩ := ih h
      exact ⟨h1, List.mem_cons_of_mem _ h2⟩
theorem jx_dec {cc : ByteArray} {cd : jm_Cd} (hk : jx_ck cc cd = true) {pc p : Nat} {i : Instr} (h : jm_look cd pc = some (p, i)) : p = pc ∧ ∃ n, decode cc pc = .ok (i, n) ∧ (jm_il i = 0 ∨ n = jm_il i) := by
  obtain ⟨rfl, h2⟩ := jx_look_in h
  refine ⟨rfl, ?_⟩
  have h3 := List.all_eq_true.mp hk _ h2
  dsimp only at h3
  cases hd : decode cc p with
  | error e => rw [hd] at h3; cases h3
  | ok q =>
    obtain ⟨i', n⟩ := q
    rw [hd] at h3
    simp only [Bool.and_eq_true, decide_eq_true_eq, Bool.or_eq_true] at h3
    refine ⟨n, by rw [h3.1], ?_⟩
    rcases h3.2 with e | e
    · exact Or.inl (Nat.eq_of_beq_eq_true e)
    · exact Or.inr (Nat.eq_of_beq_eq_true e)
def jx_rt (r : Nat) : Option FieldType := match r with
  | 0 => none
  | 1 => some .int
  | 2 => some .boolean
  | 3 => some .byte
  | 4 => some .char
  | 5 => some .long
  | _ => some (.object "")
def jx_rk (r : Nat) : Nat := match r with
  | 0 => 0
  | 5 => 2
  | 6 => 3
  | _ => 1
/-- no reference is put into a field there -/
def jx_nop (cls : Nat) (cd : jm_Cd) : Bool := cd.all (fun q => match q.2 with
  | .putfield idx => (match jm_find (jm_fl.getD cls []) idx with
    | some (_, _, 3) => false
    | _ => true)
  | _ => true)
/-- a method: its name, its bytes, kind (0 static, 1 virtual, 2 a constructor), how many parameters, places of its words -/
abbrev jx_YT : Type := MethodName × Nat × Nat × Nat × Nat × Nat × Nat

def jx_y0 : List jx_YT := [(yX0_init, 2, 0, 469, 139, 468, 0), (yX0_run, 1, 3, 1479, 139, 1477, 1478), (yX0_draw, 1, 1, 1483, 139, 1482, 48), (yX1_init, 2, 0, 447, 138, 446, 0), (yX1_take, 1, 2, 1442, 138, 1440, 1441), (yX1_countRows, 1, 1, 1448, 138, 1446, 1447), (yX1_followChain, 1, 2, 1453, 138, 1452, 44), (yX1_findReached, 1, 1, 1459, 138, 1458, 45), (yX1_addWord, 1, 1, 1467, 138, 1466, 46), (yX2_init, 2, 0, 254, 135, 253, 0), (yX2_clear, 1, 0, 807, 135, 805, 806), (yX2_copyFrom, 1, 1, 941, 135, 939, 940), (yX2_emit, 1, 2, 981, 135, 979, 980), (yX2_endRule, 1, 1, 1006, 135, 1004, 1005), (yX2_placeLost, 1, 3, 1057, 135, 1055, 1056), (yX2_holds, 1, 4, 1061, 135, 1060, 29), (yX2_isSo, 0, 4, 1064, 135, 1063, 0), (yX2_placeOf, 0, 3, 1084, 135, 1083, 0), (yX2_softestPlace, 0, 2, 1087, 135, 1086, 0), (yX2_hardestPlace, 0, 2, 1090, 135, 1089, 0)]
def jx_y1 : List jx_YT := [(yX2_lastVowelPlace, 0, 1, 1093, 135, 1092, 0), (yX3_init, 2, 1, 233, 133, 232, 0), (yX3_readAll, 1, 1, 955, 133, 953, 954), (yX3_readEither, 1, 2, 964, 133, 963, 20), (yX3_readBoth, 1, 2, 968, 133, 967, 21), (yX3_readOne, 1, 2, 972, 133, 971, 22), (yX3_readAsked, 1, 2, 986, 133, 985, 24), (yX3_readWhich, 1, 1, 998, 133, 997, 26), (yX3_askedHere, 1, 0, 976, 133, 975, 23), (yX3_comparesHere, 1, 0, 992, 133, 991, 25), (yX3_whichHere, 1, 0, 1002, 133, 1001, 27), (yX4_isVowel, 0, 1, 1096, 150, 1095, 0), (yX4_sizeOf, 0, 1, 1279, 150, 1278, 0), (yX4_letterAt, 0, 3, 1282, 150, 1281, 0), (yX4_firstOf, 0, 3, 1120, 150, 1119, 0), (yX4_lastOf, 0, 2, 1124, 150, 1123, 0), (yX4_join, 0, 3, 1127, 150, 1126, 0), (yX4_without, 0, 3, 1117, 150, 1116, 0), (yX4_with, 0, 4, 1242, 150, 1241, 0), (yX4_isLeftOf, 0, 2, 1276, 150, 1275, 0)]
def jx_y2 : List jx_YT := [(yX5_init, 2, 0, 400, 137, 399, 0), (yX5_take, 1, 3, 1352, 137, 1350, 1351), (yX5_countRows, 1, 1, 1358, 137, 1356, 1357), (yX5_farthest, 1, 1, 1414, 137, 1412, 1413), (yX5_fewestLetters, 1, 1, 1393, 137, 1391, 1392), (yX5_tellCheaply, 1, 1, 1432, 137, 1430, 1431), (yX5_rowsFrom, 1, 2, 1366, 137, 1365, 37), (yX5_farthestFrom, 1, 2, 1418, 137, 1417, 43), (yX5_seekFewest, 1, 3, 1397, 137, 1396, 41), (yX5_keepIfFewer, 1, 1, 1401, 137, 1400, 42), (yX5_forgetPlaces, 1, 0, 1362, 137, 1361, 36), (yX5_placeLost, 1, 2, 1372, 137, 1371, 38), (yX5_step, 1, 4, 1377, 137, 1376, 39), (yX5_stepBack, 1, 3, 1385, 137, 1384, 40), (yX6_init, 2, 1, 165, 131, 164, 0), (yX6_open, 1, 1, 669, 131, 667, 668), (yX6_isFine, 1, 0, 811, 131, 809, 810), (yX6_blame, 1, 1, 823, 131, 821, 822), (yX6_blameStanding, 1, 0, 840, 131, 838, 839), (yX6_advance, 1, 0, 673, 131, 671, 672)]
def jx_y3 : List jx_YT := [(yX6_isSign, 1, 1, 872, 131, 870, 871), (yX6_isShortWord, 1, 0, 836, 131, 834, 835), (yX6_isName, 1, 0, 832, 131, 830, 831), (yX6_passKey, 1, 1, 862, 131, 860, 861), (yX6_passSign, 1, 1, 904, 131, 902, 903), (yX6_letter, 1, 1, 896, 131, 894, 895), (yX6_byteAt, 1, 1, 677, 131, 676, 7), (yX6_isSmall, 0, 1, 680, 131, 679, 0), (yX6_isDigit, 0, 1, 737, 131, 736, 0), (yX6_keyOf, 0, 1, 685, 131, 684, 0), (yX7_init, 2, 0, 498, 140, 497, 0), (yX7_isMissing, 1, 0, 621, 140, 619, 620), (yX7_lay, 1, 2, 599, 140, 597, 598), (yX7_hasRun, 1, 2, 625, 140, 623, 624), (yX7_at, 1, 1, 646, 140, 644, 645), (yX7_put, 1, 2, 629, 140, 627, 628), (yX7_cutToSort, 1, 1, 634, 140, 633, 4), (yX8_init, 2, 0, 246, 134, 245, 0), (yX8_clear, 1, 0, 803, 134, 801, 802), (yX8_copyFrom, 1, 1, 933, 134, 931, 932)]
def jx_y4 : List jx_YT := [(yX8_hardenAll, 1, 0, 342, 134, 341, 0), (yX8_soften, 1, 2, 900, 134, 898, 899), (yX8_addWord, 1, 3, 876, 134, 874, 875), (yX8_teachAllWords, 1, 0, 909, 134, 907, 908), (yX8_teachWord, 1, 1, 913, 134, 912, 16), (yX8_isWord, 1, 1, 925, 134, 923, 924), (yX8_isMeaning, 1, 1, 1036, 134, 1034, 1035), (yX8_isSpeaker, 1, 1, 921, 134, 919, 920), (yX8_areOthers, 1, 2, 1261, 134, 1259, 1260), (yX8_othersThan, 1, 1, 1265, 134, 1263, 1264), (yX8_knownForm, 1, 2, 1222, 134, 1220, 1221), (yX8_learn, 1, 3, 917, 134, 916, 17), (yX8_understands, 1, 2, 1273, 134, 1271, 1272), (yX8_formsKnown, 1, 1, 1218, 134, 1216, 1217), (yX8_countLiving, 1, 0, 1019, 134, 1017, 1018), (yX8_countLetters, 1, 0, 1498, 134, 1496, 1497), (yX8_wordsWith, 1, 1, 1040, 134, 1038, 1039), (yX8_meaningsOfOne, 1, 0, 1176, 134, 1174, 1175), (yX8_meaningsOfNone, 1, 0, 1186, 134, 1184, 1185), (yX8_cheapWord, 1, 1, 1198, 134, 1196, 1197)]
def jx_y5 : List jx_YT := [(yX8_alikeTo, 1, 2, 854, 134, 852, 853), (yX8_rhymesOf, 1, 2, 1167, 134, 1165, 1166), (yX8_commonOf, 1, 2, 1157, 134, 1155, 1156), (yX8_placeLost, 1, 1, 1053, 134, 1051, 1052), (yX8_sayWord, 1, 1, 1202, 134, 1200, 1201), (yX8_unite, 1, 2, 1207, 134, 1205, 1206), (yX8_tellWord, 1, 3, 1269, 134, 1267, 1268), (yX8_passDay, 1, 0, 1493, 134, 1491, 1492), (yX8_giveBack, 1, 0, 1230, 134, 1228, 1229), (yX8_wearOut, 1, 1, 1194, 134, 1192, 1193), (yX8_tryWord, 1, 1, 1105, 134, 1103, 1104), (yX8_wearTried, 1, 1, 1109, 134, 1107, 1108), (yX8_lifeOfTried, 1, 0, 1139, 134, 1137, 1138), (yX8_cutForm, 1, 4, 1317, 134, 1316, 32), (yX8_canCut, 1, 4, 1313, 134, 1311, 1312), (yX8_lifeOfCut, 1, 4, 1335, 134, 1333, 1334), (yX8_cutWord, 1, 5, 1323, 134, 1321, 1322), (yX8_freeNumber, 1, 0, 1327, 134, 1326, 33), (yX9_init, 2, 1, 213, 132, 212, 0), (yX9_readAll, 1, 1, 799, 132, 797, 798)]
def jx_y6 : List jx_YT := [(yX9_readPart, 1, 1, 815, 132, 814, 8), (yX9_readMeaning, 1, 1, 819, 132, 818, 9), (yX9_readSpeaker, 1, 1, 888, 132, 887, 14), (yX9_readThingSaid, 1, 1, 849, 132, 848, 12), (yX9_readMeanings, 1, 1, 868, 132, 867, 13), (yX9_readSoft, 1, 1, 892, 132, 891, 15), (yX9_isNewName, 1, 1, 828, 132, 827, 10), (yX9_placeOf, 1, 2, 845, 132, 844, 11), (yX10_init, 2, 0, 285, 136, 284, 0), (yX10_begin, 1, 3, 880, 136, 878, 879), (yX10_copyFrom, 1, 1, 937, 136, 935, 936), (yX10_isGone, 1, 0, 858, 136, 856, 857), (yX10_letter, 1, 1, 1074, 136, 1072, 1073), (yX10_letterSet, 1, 0, 1078, 136, 1076, 1077), (yX10_wear, 1, 2, 1113, 136, 1111, 1112), (yX10_goAway, 1, 0, 1131, 136, 1129, 1130), (yX10_keepLost, 1, 0, 884, 136, 882, 883), (yX10_canRegain, 1, 0, 1234, 136, 1232, 1233), (yX10_regained, 1, 0, 1238, 136, 1236, 1237), (yX10_regain, 1, 0, 1246, 136, 1244, 1245)]
def jx_y7 : List jx_YT := [(yX11_init, 2, 0, 155, 130, 154, 0), (yX11_status, 1, 0, 576, 130, 574, 575), (yX11_top, 1, 0, 580, 130, 578, 579), (yX11_bottom, 1, 0, 584, 130, 582, 583), (yX11_tray, 1, 3, 588, 130, 586, 587), (yX11_write, 1, 3, 613, 130, 611, 612), (yX11_read, 1, 2, 638, 130, 636, 637), (yX11_pour, 1, 5, 650, 130, 648, 649), (yX11_feed, 1, 5, 657, 130, 655, 656), (yX11_village, 1, 1, 665, 130, 663, 664), (yX11_law, 1, 1, 951, 130, 949, 950), (yX11_fault, 1, 1, 1011, 130, 1009, 1010), (yX11_told, 1, 1, 1015, 130, 1013, 1014), (yX11_form, 1, 1, 1023, 130, 1021, 1022), (yX11_word, 1, 2, 1028, 130, 1026, 1027), (yX11_words, 1, 1, 1032, 130, 1030, 1031), (yX11_loses, 1, 1, 1044, 130, 1042, 1043), (yX11_chain, 1, 2, 1101, 130, 1099, 1100), (yX11_life, 1, 1, 1135, 130, 1133, 1134), (yX11_twin, 1, 2, 1144, 130, 1142, 1143)]
def jx_y8 : List jx_YT := [(yX11_common, 1, 2, 1149, 130, 1147, 1148), (yX11_rhymes, 1, 2, 1163, 130, 1161, 1162), (yX11_lone, 1, 0, 1172, 130, 1170, 1171), (yX11_mute, 1, 0, 1182, 130, 1180, 1181), (yX11_lasts, 1, 1, 1190, 130, 1188, 1189), (yX11_spread, 1, 1, 1214, 130, 1212, 1213), (yX11_wintry, 1, 0, 1226, 130, 1224, 1225), (yX11_say, 1, 1, 1251, 130, 1249, 1250), (yX11_tell, 1, 3, 1256, 130, 1254, 1255), (yX11_follows, 1, 2, 1286, 130, 1284, 1285), (yX11_knows, 1, 2, 1291, 130, 1289, 1290), (yX11_pass, 1, 1, 1296, 130, 1294, 1295), (yX11_winter, 1, 0, 1300, 130, 1298, 1299), (yX11_cut, 1, 5, 1305, 130, 1303, 1304), (yX11_bestCut, 1, 3, 1331, 130, 1329, 1330), (yX11_ways, 1, 2, 1340, 130, 1338, 1339), (yX11_fewest, 1, 2, 1389, 130, 1387, 1388), (yX11_fewestAt, 1, 1, 1406, 130, 1404, 1405), (yX11_howFar, 1, 2, 1410, 130, 1408, 1409), (yX11_cheap, 1, 1, 1423, 130, 1421, 1422)]
def jx_y9 : List jx_YT := [(yX11_story, 1, 2, 1428, 130, 1426, 1427), (yX11_readings, 1, 2, 1438, 130, 1436, 1437), (yX11_gossip, 1, 2, 1471, 130, 1469, 1470), (yX11_gossiped, 1, 1, 1502, 130, 1500, 1501), (yX11_odds, 1, 3, 1506, 130, 1504, 1505), (yX11_mark, 1, 0, 1514, 130, 1512, 1513), (yX11_back, 1, 0, 1518, 130, 1516, 1517), (yX11_fail, 1, 1, 642, 130, 641, 5), (yX11_give, 1, 1, 947, 130, 946, 19), (yX11_refuse, 1, 1, 595, 130, 594, 1), (yX11_allow, 1, 0, 609, 130, 608, 2), (yX11_isTray, 0, 1, 591, 130, 590, 0), (yX11_wrongPlace, 1, 2, 617, 130, 616, 3), (yX11_wrongRow, 1, 3, 1348, 130, 1347, 35), (yX11_wrongStory, 1, 2, 1344, 130, 1343, 34), (yX11_wrongWord, 1, 1, 1048, 130, 1047, 28), (yX11_wrongPair, 1, 2, 1153, 130, 1152, 30), (yX11_wrongCut, 1, 2, 1309, 130, 1308, 31), (yX11_wrongGossip, 1, 2, 1475, 130, 1474, 47), (yX11_append, 1, 1, 661, 130, 660, 6)]
def jx_y10 : List jx_YT := [(yX11_keepFault, 1, 0, 929, 130, 928, 18), (yX11_tellFraction, 1, 2, 1510, 130, 1509, 49), (yX12_init, 2, 0, 1523, 141, 1522, 0), (yX12_softens, 1, 1, 1528, 141, 1527, 50), (yX12_status, 1, 0, 1678, 141, 1676, 1677), (yX12_top, 1, 0, 1682, 141, 1680, 1681), (yX12_bottom, 1, 0, 1686, 141, 1684, 1685), (yX12_is, 1, 1, 1697, 141, 1696, 51), (yX12_refuse, 1, 1, 1757, 141, 1756, 57), (yX12_gives, 1, 1, 1848, 141, 1847, 78), (yX12_orNone, 1, 1, 1924, 141, 1923, 93), (yX12_givesLong, 1, 1, 1912, 141, 1911, 91), (yX12_tellsBy, 1, 2, 2206, 141, 2205, 127), (yX12_isTray, 0, 1, 1693, 141, 1692, 0), (yX12_cutTo, 0, 2, 1708, 141, 1707, 0), (yX12_tray, 1, 3, 1690, 141, 1688, 1689), (yX12_wrongPlace, 1, 2, 1705, 141, 1704, 52), (yX12_write, 1, 3, 1701, 141, 1699, 1700), (yX12_read, 1, 2, 1712, 141, 1710, 1711), (yX12_pour, 1, 5, 1717, 141, 1715, 1716)]
def jx_y11 : List jx_YT := [(yX12_isFrom, 0, 3, 2100, 141, 2099, 0), (yX12_feed, 1, 5, 1721, 141, 1719, 1720), (yX12_four, 1, 1, 1725, 141, 1724, 53), (yX12_byteAt, 1, 1, 1745, 141, 1744, 56), (yX12_isSmall, 0, 1, 1748, 141, 1747, 0), (yX12_isDigit, 0, 1, 1751, 141, 1750, 0), (yX12_ahead, 1, 0, 1741, 141, 1740, 55), (yX12_isSign, 1, 1, 1827, 141, 1826, 73), (yX12_inWords, 1, 1, 1766, 141, 1765, 59), (yX12_fails, 1, 1, 1776, 141, 1775, 61), (yX12_begins, 1, 2, 1737, 141, 1736, 54), (yX12_wantSign, 1, 1, 1823, 141, 1822, 72), (yX12_wantWord, 1, 2, 1807, 141, 1806, 68), (yX12_isName, 1, 1, 1784, 141, 1783, 63), (yX12_nameHere, 1, 0, 1792, 141, 1791, 65), (yX12_findHere, 1, 2, 1788, 141, 1787, 64), (yX12_fault, 1, 1, 1729, 141, 1727, 1728), (yX12_taken, 1, 1, 1844, 141, 1843, 77), (yX12_bits, 0, 1, 2025, 141, 2024, 0), (yX12_rowOf, 0, 2, 1799, 141, 1798, 0)]
def jx_y12 : List jx_YT := [(yX12_aNewName, 1, 1, 1780, 141, 1779, 62), (yX12_aMeaning, 1, 0, 1772, 141, 1771, 60), (yX12_aSpeaker, 1, 0, 1815, 141, 1814, 70), (yX12_areLike, 1, 2, 1803, 141, 1802, 67), (yX12_fresh, 1, 2, 1811, 141, 1810, 69), (yX12_aWord, 1, 0, 1796, 141, 1795, 66), (yX12_areSoft, 1, 0, 1819, 141, 1818, 71), (yX12_villagePart, 1, 0, 1761, 141, 1760, 58), (yX12_village, 1, 1, 1733, 141, 1731, 1732), (yX12_asksAlso, 1, 1, 1876, 141, 1875, 84), (yX12_isDoing, 1, 1, 1884, 141, 1883, 86), (yX12_does, 1, 1, 1868, 141, 1867, 82), (yX12_joins, 1, 0, 1888, 141, 1887, 87), (yX12_turnsRound, 1, 0, 1880, 141, 1879, 85), (yX12_isOpen, 1, 0, 1892, 141, 1891, 88), (yX12_aCase, 1, 1, 1872, 141, 1871, 83), (yX12_aOne, 1, 0, 1864, 141, 1863, 81), (yX12_conditions, 1, 0, 1860, 141, 1859, 80), (yX12_aRule, 1, 0, 1856, 141, 1855, 79), (yX12_law, 1, 1, 1852, 141, 1850, 1851)]
def jx_y13 : List jx_YT := [(yX12_loads, 1, 1, 1835, 141, 1834, 75), (yX12_numberHere, 1, 0, 1839, 141, 1838, 76), (yX12_formOf, 1, 2, 1831, 141, 1830, 74), (yX12_isVowel, 0, 1, 1969, 141, 1968, 0), (yX12_isSuch, 0, 2, 1966, 141, 1965, 0), (yX12_asked, 1, 5, 1963, 141, 1962, 100), (yX12_holds, 1, 5, 1959, 141, 1958, 99), (yX12_softAt, 1, 1, 1977, 141, 1976, 102), (yX12_placeBy, 1, 1, 1973, 141, 1972, 101), (yX12_goes, 1, 4, 1955, 141, 1954, 98), (yX12_drops, 1, 1, 1993, 141, 1992, 105), (yX12_isMany, 0, 1, 1947, 141, 1946, 0), (yX12_idleOf, 1, 2, 1951, 141, 1950, 97), (yX12_isGone, 1, 1, 2049, 141, 2048, 111), (yX12_joinsTwo, 1, 3, 2053, 141, 2052, 112), (yX12_says, 1, 2, 2045, 141, 2044, 110), (yX12_areNear, 0, 2, 2084, 141, 2083, 0), (yX12_tells, 1, 5, 2081, 141, 2080, 115), (yX12_winters, 1, 1, 2065, 141, 2064, 113), (yX12_isWord, 1, 1, 1908, 141, 1907, 90)]
def jx_y14 : List jx_YT := [(yX12_isMeaning, 1, 1, 1932, 141, 1931, 94), (yX12_isSpeaker, 1, 1, 2077, 141, 2076, 114), (yX12_ofWord, 1, 2, 1920, 141, 1919, 92), (yX12_leftIn, 1, 1, 1900, 141, 1899, 89), (yX12_told, 1, 1, 1896, 141, 1894, 1895), (yX12_form, 1, 1, 1904, 141, 1902, 1903), (yX12_word, 1, 2, 1916, 141, 1914, 1915), (yX12_wordsOf, 1, 2, 1936, 141, 1935, 95), (yX12_words, 1, 1, 1928, 141, 1926, 1927), (yX12_wrongWord, 1, 1, 1944, 141, 1943, 96), (yX12_loses, 1, 1, 1940, 141, 1938, 1939), (yX12_chains, 1, 4, 1989, 141, 1988, 104), (yX12_chainsWord, 1, 1, 1985, 141, 1984, 103), (yX12_lifeHere, 1, 0, 2001, 141, 2000, 106), (yX12_chain, 1, 2, 1981, 141, 1979, 1980), (yX12_life, 1, 1, 1997, 141, 1995, 1996), (yX12_twin, 1, 2, 2005, 141, 2003, 2004), (yX12_common, 1, 2, 2009, 141, 2007, 2008), (yX12_rhyme, 1, 3, 2018, 141, 2017, 107), (yX12_rhymes, 1, 2, 2014, 141, 2012, 2013)]
def jx_y15 : List jx_YT := [(yX12_lone, 1, 0, 2022, 141, 2020, 2021), (yX12_mute, 1, 0, 2029, 141, 2027, 2028), (yX12_lays, 1, 2, 2037, 141, 2036, 108), (yX12_cheapIn, 1, 2, 2041, 141, 2040, 109), (yX12_lasts, 1, 1, 2033, 141, 2031, 2032), (yX12_spread, 1, 1, 2057, 141, 2055, 2056), (yX12_wintry, 1, 0, 2061, 141, 2059, 2060), (yX12_say, 1, 1, 2069, 141, 2067, 2068), (yX12_tell, 1, 3, 2073, 141, 2071, 2072), (yX12_follows, 1, 2, 2088, 141, 2086, 2087), (yX12_knows, 1, 2, 2092, 141, 2090, 2091), (yX12_pass, 1, 1, 2096, 141, 2094, 2095), (yX12_winter, 1, 0, 2104, 141, 2102, 2103), (yX12_cuts, 1, 4, 2112, 141, 2111, 116), (yX12_isAlike, 1, 0, 2116, 141, 2115, 117), (yX12_cut, 1, 5, 2108, 141, 2106, 2107), (yX12_bestCut, 1, 3, 2120, 141, 2118, 2119), (yX12_wrongStory, 1, 2, 2128, 141, 2127, 118), (yX12_meaningAt, 1, 2, 2137, 141, 2136, 120), (yX12_goesThrough, 1, 2, 2133, 141, 2132, 119)]
def jx_y16 : List jx_YT := [(yX12_ways, 1, 2, 2124, 141, 2122, 2123), (yX12_fewest, 1, 2, 2141, 141, 2139, 2140), (yX12_fewestAt, 1, 1, 2145, 141, 2143, 2144), (yX12_howFar, 1, 2, 2149, 141, 2147, 2148), (yX12_cheap, 1, 1, 2153, 141, 2151, 2152), (yX12_story, 1, 2, 2157, 141, 2155, 2156), (yX12_findsOn, 1, 3, 2170, 141, 2169, 122), (yX12_placeIn, 1, 2, 2166, 141, 2165, 121), (yX12_readings, 1, 2, 2161, 141, 2159, 2160), (yX12_draw, 1, 1, 2192, 141, 2191, 126), (yX12_canGossip, 1, 0, 2180, 141, 2179, 123), (yX12_gossips, 1, 2, 2188, 141, 2187, 125), (yX12_begins0, 1, 0, 2184, 141, 2183, 124), (yX12_gossip, 1, 2, 2174, 141, 2172, 2173), (yX12_gossiped, 1, 1, 2197, 141, 2195, 2196), (yX12_odds, 1, 3, 2201, 141, 2199, 2200), (yX12_copies, 1, 2, 2214, 141, 2213, 128), (yX12_mark, 1, 0, 2210, 141, 2208, 2209), (yX12_back, 1, 0, 2218, 141, 2216, 2217), (yJ0_length_8abf5, 1, 0, 690, 144, 688, 689)]
def jx_y17 : List jx_YT := [(yJ0_charAt_5068e, 1, 1, 700, 144, 698, 699), (yJ0_indexOf_0f7a4, 1, 1, 744, 144, 742, 743), (yJ0_indexOf_7cf53, 1, 2, 748, 144, 746, 747), (yJ0_coder_7d493, 1, 0, 694, 144, 692, 693), (yJ0_isLatin1_aae02, 1, 0, 704, 144, 702, 703), (yJ0_checkIndex_df160, 0, 2, 710, 144, 709, 0), (yJ1_charAt_3b067, 0, 2, 707, 145, 706, 0), (yJ1_canEncode_9a6ad, 0, 1, 755, 145, 754, 0), (yJ1_indexOf_4cfef, 0, 4, 752, 145, 751, 0), (yJ1_indexOfChar_4cfef, 0, 4, 760, 145, 759, 0), (yJ3_checkIndex_8e157, 0, 3, 715, 146, 714, 0), (yJ6_bitCount_0f7a4, 0, 1, 1067, 149, 1066, 0), (yJ6_numberOfLeadingZeros_0f7a4, 0, 1, 1462, 149, 1461, 0)]
def jx_y : List jx_YT := jx_y0 ++ (jx_y1 ++ (jx_y2 ++ (jx_y3 ++ (jx_y4 ++ (jx_y5 ++ (jx_y6 ++ (jx_y7 ++ (jx_y8 ++ (jx_y9 ++ (jx_y10 ++ (jx_y11 ++ (jx_y12 ++ (jx_y13 ++ (jx_y14 ++ (jx_y15 ++ (jx_y16 ++ (jx_y17)))))))))))))))))
def jx_cok (i : Nat) (y : MethodName) (t : Nat × Nat × Nat × jm_Cd) : Bool := match lw_tbl[i]? with
  | some (.code y' b m r) => decide (y' = y) && Nat.beq m t.2.2.1 && decide (r = jx_rt t.2.1) && goodWord (.code y' b m r) && jx_ck b t.2.2.2
  | _ => false
def jx_mok (q : jx_YT) (t : Nat × Nat × Nat × jm_Cd) : Bool :=
  jx_cok q.2.2.2.1 q.1 t && jx_at q.2.2.2.2.1 (.initialized q.1.cls) &&
  (match q.2.1 with
    | 0 => jx_at q.2.2.2.2.2.1 (.static q.1)
    | 1 => jx_at q.2.2.2.2.2.1 (.instanceMethod q.1) && jx_at q.2.2.2.2.2.2 (.selects q.1.cls q.1 q.1)
    | _ => jx_at q.2.2.2.2.2.1 (.instanceMethod q.1) && decide (q.1.name = "<init>") && Nat.beq t.2.1 0) &&
  decide (q.1.cls ≠ "java/lang/invoke/MethodHandle") && decide (q.1.cls ≠ "java/lang/invoke/VarHandle") && plainName q.1.cls && decide (jm_cn[t.1]? = some q.1.cls) &&
  decide ((parseMethodDescriptor q.1.desc).map (fun d => d.parameters.length) = some q.2.2.1) && Nat.ble t.2.2.1 60 && Nat.ble t.2.1 5 && (decide (q.1.name = "<init>") || jx_nop t.1 t.2.2.2)
