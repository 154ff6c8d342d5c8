/-! ===== what the tables say, looked up by places ===== -/
def jx_gw : List Cond := lw_tbl.filter goodWord
theorem jx_gw_good : GoodIn jx_gw jx_gw := fun w hw => ⟨hw, good_of_word (List.mem_filter.mp hw).2⟩
theorem jx_gw_tbl : GoodIn lw_tbl jx_gw := fun w hw => ⟨(List.mem_filter.mp hw).1, good_of_word (List.mem_filter.mp hw).2⟩
def jx_at (i : Nat) (w : Cond) : Bool := decide (lw_tbl[i]? = some w) && goodWord w
theorem jx_at_in {i : Nat} {w : Cond} (h : jx_at i w = true) : w ∈ jx_gw := by
  simp only [jx_at, Bool.and_eq_true, decide_eq_true_eq] at h
  exact List.mem_filter.mpr ⟨List.mem_of_getElem? h.1, h.2⟩
def jm_il : Instr → Nat
  | .bipush _ => 2
  | .sipush _ => 3
  | .iload _ => 2
  | .lload _ => 2
  | .aload _ => 2
  | .istore _ => 2
  | .lstore _ => 2
  | .astore _ => 2
  | .iinc _ _ => 3
  | .ifCond _ _ => 3
  | .if_icmp _ _ => 3
  | .goto _ => 3
  | .getfield _ => 3
  | .putfield _ => 3
  | .getstatic _ => 3
  | .ldc _ => 2
  | .ldc_w _ => 3
  | .ldc2_w _ => 3
  | .new _ => 3
  | .newarray _ => 2
  | .anewarray _ => 3
  | .invokestatic _ => 3
  | .invokevirtual _ => 3
  | .invokespecial _ => 3
  | .tableswitch _ _ _ _ => 0
  | _ => 1
def jx_ck (cc : ByteArray) (cd : jm_Cd) : Bool := cd.all (fun q => match decode cc q.1 with
  | .ok (i, n) => decide (i = q.2) && (Nat.beq (jm_il q.2) 0 || Nat.beq n (jm_il q.2))
  | .error _ => false)
theorem jx_look_in {cd : jm_Cd} {pc p : Nat} {i : Instr} (h : jm_look cd pc = some (p, i)) : p = pc ∧ (p, i) ∈ cd := by
  induction cd with
  | nil => cases h
  | cons q l ih =>
    obtain ⟨a, b⟩ := q
    unfold jm_look at h
    cases hb : Nat.beq a pc with
    | true =>
      rw [hb] at h
      cases h
      exact ⟨Nat.eq_of_beq_eq_true hb, List.mem_cons_self⟩
    | false =>
      rw [hb] at h
      obtain ⟨h1, h2⟩ := ih h
      exact ⟨h1, List.mem_cons_of_mem _ h2⟩
theorem jx_dec {cc : ByteArray} {cd : jm_Cd} (hk : jx_ck cc cd = true) {pc p : Nat} {i : Instr} (h : jm_look cd pc = some (p, i)) : p = pc ∧ ∃ n, decode cc pc = .ok (i, n) ∧ (jm_il i = 0 ∨ n = jm_il i) := by
  obtain ⟨rfl, h2⟩ := jx_look_in h
  refine ⟨rfl, ?_⟩
  have h3 := List.all_eq_true.mp hk _ h2
  dsimp only at h3
  cases hd : decode cc p with
  | error e => rw [hd] at h3; cases h3
  | ok q =>
    obtain ⟨i', n⟩ := q
    rw [hd] at h3
    simp only [Bool.and_eq_true, decide_eq_true_eq, Bool.or_eq_true] at h3
    refine ⟨n, by rw [h3.1], ?_⟩
    rcases h3.2 with e | e
    · exact Or.inl (Nat.eq_of_beq_eq_true e)
    · exact Or.inr (Nat.eq_of_beq_eq_true e)
def jx_rt (r : Nat) : Option FieldType := match r with
  | 0 => none
  | 1 => some .int
  | 2 => some .boolean
  | 3 => some .byte
  | 4 => some .char
  | 5 => some .long
  | _ => some (.object "")
def jx_rk (r : Nat) : Nat := match r with
  | 0 => 0
  | 5 => 2
  | 6 => 3
  | _ => 1
/-- no reference is put into a field there -/
def jx_nop (cls : Nat) (cd : jm_Cd) : Bool := cd.all (fun q => match q.2 with
  | .putfield idx => (match jm_find (jm_fl.getD cls []) idx with
    | some (_, _, 3) => false
    | _ => true)
  | _ => true)
/-- a method: its name, its bytes, kind (0 static, 1 virtual, 2 a constructor), how many parameters, places of its words -/
abbrev jx_YT : Type := MethodName × Nat × Nat × Nat × Nat × Nat × Nat

def jx_y0 : List jx_YT := [(yX0_init, 2, 0, 469, 139, 468, 0), (yX0_run, 1, 3, 1480, 139, 1478, 1479), (yX0_draw, 1, 1, 1484, 139, 1483, 48), (yX1_init, 2, 0, 447, 138, 446, 0), (yX1_take, 1, 2, 1443, 138, 1441, 1442), (yX1_countRows, 1, 1, 1449, 138, 1447, 1448), (yX1_followChain, 1, 2, 1454, 138, 1453, 44), (yX1_findReached, 1, 1, 1460, 138, 1459, 45), (yX1_addWord, 1, 1, 1468, 138, 1467, 46), (yX2_init, 2, 0, 254, 135, 253, 0), (yX2_clear, 1, 0, 807, 135, 805, 806), (yX2_copyFrom, 1, 1, 941, 135, 939, 940), (yX2_emit, 1, 2, 981, 135, 979, 980), (yX2_endRule, 1, 1, 1006, 135, 1004, 1005), (yX2_placeLost, 1, 3, 1057, 135, 1055, 1056), (yX2_holds, 1, 4, 1061, 135, 1060, 29), (yX2_isSo, 0, 4, 1064, 135, 1063, 0), (yX2_placeOf, 0, 3, 1084, 135, 1083, 0), (yX2_softestPlace, 0, 2, 1087, 135, 1086, 0), (yX2_hardestPlace, 0, 2, 1091, 135, 1090, 0)]
def jx_y1 : List jx_YT := [(yX2_lastVowelPlace, 0, 1, 1094, 135, 1093, 0), (yX3_init, 2, 1, 233, 133, 232, 0), (yX3_readAll, 1, 1, 955, 133, 953, 954), (yX3_readEither, 1, 2, 964, 133, 963, 20), (yX3_readBoth, 1, 2, 968, 133, 967, 21), (yX3_readOne, 1, 2, 972, 133, 971, 22), (yX3_readAsked, 1, 2, 986, 133, 985, 24), (yX3_readWhich, 1, 1, 998, 133, 997, 26), (yX3_askedHere, 1, 0, 976, 133, 975, 23), (yX3_comparesHere, 1, 0, 992, 133, 991, 25), (yX3_whichHere, 1, 0, 1002, 133, 1001, 27), (yX4_isVowel, 0, 1, 1097, 150, 1096, 0), (yX4_sizeOf, 0, 1, 1280, 150, 1279, 0), (yX4_letterAt, 0, 3, 1283, 150, 1282, 0), (yX4_firstOf, 0, 3, 1121, 150, 1120, 0), (yX4_lastOf, 0, 2, 1125, 150, 1124, 0), (yX4_join, 0, 3, 1128, 150, 1127, 0), (yX4_without, 0, 3, 1118, 150, 1117, 0), (yX4_with, 0, 4, 1243, 150, 1242, 0), (yX4_isLeftOf, 0, 2, 1277, 150, 1276, 0)]
def jx_y2 : List jx_YT := [(yX5_init, 2, 0, 400, 137, 399, 0), (yX5_take, 1, 3, 1353, 137, 1351, 1352), (yX5_countRows, 1, 1, 1359, 137, 1357, 1358), (yX5_farthest, 1, 1, 1415, 137, 1413, 1414), (yX5_fewestLetters, 1, 1, 1394, 137, 1392, 1393), (yX5_tellCheaply, 1, 1, 1433, 137, 1431, 1432), (yX5_rowsFrom, 1, 2, 1367, 137, 1366, 37), (yX5_farthestFrom, 1, 2, 1419, 137, 1418, 43), (yX5_seekFewest, 1, 3, 1398, 137, 1397, 41), (yX5_keepIfFewer, 1, 1, 1402, 137, 1401, 42), (yX5_forgetPlaces, 1, 0, 1363, 137, 1362, 36), (yX5_placeLost, 1, 2, 1373, 137, 1372, 38), (yX5_step, 1, 4, 1378, 137, 1377, 39), (yX5_stepBack, 1, 3, 1386, 137, 1385, 40), (yX6_init, 2, 1, 165, 131, 164, 0), (yX6_open, 1, 1, 669, 131, 667, 668), (yX6_isFine, 1, 0, 811, 131, 809, 810), (yX6_blame, 1, 1, 823, 131, 821, 822), (yX6_blameStanding, 1, 0, 840, 131, 838, 839), (yX6_advance, 1, 0, 673, 131, 671, 672)]
def jx_y3 : List jx_YT := [(yX6_isSign, 1, 1, 872, 131, 870, 871), (yX6_isShortWord, 1, 0, 836, 131, 834, 835), (yX6_isName, 1, 0, 832, 131, 830, 831), (yX6_passKey, 1, 1, 862, 131, 860, 861), (yX6_passSign, 1, 1, 904, 131, 902, 903), (yX6_letter, 1, 1, 896, 131, 894, 895), (yX6_byteAt, 1, 1, 677, 131, 676, 7), (yX6_isSmall, 0, 1, 680, 131, 679, 0), (yX6_isDigit, 0, 1, 737, 131, 736, 0), (yX6_keyOf, 0, 1, 685, 131, 684, 0), (yX7_init, 2, 0, 498, 140, 497, 0), (yX7_isMissing, 1, 0, 621, 140, 619, 620), (yX7_lay, 1, 2, 599, 140, 597, 598), (yX7_hasRun, 1, 2, 625, 140, 623, 624), (yX7_at, 1, 1, 646, 140, 644, 645), (yX7_put, 1, 2, 629, 140, 627, 628), (yX7_cutToSort, 1, 1, 634, 140, 633, 4), (yX8_init, 2, 0, 246, 134, 245, 0), (yX8_clear, 1, 0, 803, 134, 801, 802), (yX8_copyFrom, 1, 1, 933, 134, 931, 932)]
def jx_y4 : List jx_YT := [(yX8_hardenAll, 1, 0, 342, 134, 341, 0), (yX8_soften, 1, 2, 900, 134, 898, 899), (yX8_addWord, 1, 3, 876, 134, 874, 875), (yX8_teachAllWords, 1, 0, 909, 134, 907, 908), (yX8_teachWord, 1, 1, 913, 134, 912, 16), (yX8_isWord, 1, 1, 925, 134, 923, 924), (yX8_isMeaning, 1, 1, 1036, 134, 1034, 1035), (yX8_isSpeaker, 1, 1, 921, 134, 919, 920), (yX8_areOthers, 1, 2, 1262, 134, 1260, 1261), (yX8_othersThan, 1, 1, 1266, 134, 1264, 1265), (yX8_knownForm, 1, 2, 1223, 134, 1221, 1222), (yX8_learn, 1, 3, 917, 134, 916, 17), (yX8_understands, 1, 2, 1274, 134, 1272, 1273), (yX8_formsKnown, 1, 1, 1219, 134, 1217, 1218), (yX8_countLiving, 1, 0, 1019, 134, 1017, 1018), (yX8_countLetters, 1, 0, 1499, 134, 1497, 1498), (yX8_wordsWith, 1, 1, 1040, 134, 1038, 1039), (yX8_meaningsOfOne, 1, 0, 1177, 134, 1175, 1176), (yX8_meaningsOfNone, 1, 0, 1187, 134, 1185, 1186), (yX8_cheapWord, 1, 1, 1199, 134, 1197, 1198)]
def jx_y5 : List jx_YT := [(yX8_alikeTo, 1, 2, 854, 134, 852, 853), (yX8_rhymesOf, 1, 2, 1168, 134, 1166, 1167), (yX8_commonOf, 1, 2, 1158, 134, 1156, 1157), (yX8_placeLost, 1, 1, 1053, 134, 1051, 1052), (yX8_sayWord, 1, 1, 1203, 134, 1201, 1202), (yX8_unite, 1, 2, 1208, 134, 1206, 1207), (yX8_tellWord, 1, 3, 1270, 134, 1268, 1269), (yX8_passDay, 1, 0, 1494, 134, 1492, 1493), (yX8_giveBack, 1, 0, 1231, 134, 1229, 1230), (yX8_wearOut, 1, 1, 1195, 134, 1193, 1194), (yX8_tryWord, 1, 1, 1106, 134, 1104, 1105), (yX8_wearTried, 1, 1, 1110, 134, 1108, 1109), (yX8_lifeOfTried, 1, 0, 1140, 134, 1138, 1139), (yX8_cutForm, 1, 4, 1318, 134, 1317, 32), (yX8_canCut, 1, 4, 1314, 134, 1312, 1313), (yX8_lifeOfCut, 1, 4, 1336, 134, 1334, 1335), (yX8_cutWord, 1, 5, 1324, 134, 1322, 1323), (yX8_freeNumber, 1, 0, 1328, 134, 1327, 33), (yX9_init, 2, 1, 213, 132, 212, 0), (yX9_readAll, 1, 1, 799, 132, 797, 798)]
def jx_y6 : List jx_YT := [(yX9_readPart, 1, 1, 815, 132, 814, 8), (yX9_readMeaning, 1, 1, 819, 132, 818, 9), (yX9_readSpeaker, 1, 1, 888, 132, 887, 14), (yX9_readThingSaid, 1, 1, 849, 132, 848, 12), (yX9_readMeanings, 1, 1, 868, 132, 867, 13), (yX9_readSoft, 1, 1, 892, 132, 891, 15), (yX9_isNewName, 1, 1, 828, 132, 827, 10), (yX9_placeOf, 1, 2, 845, 132, 844, 11), (yX10_init, 2, 0, 285, 136, 284, 0), (yX10_begin, 1, 3, 880, 136, 878, 879), (yX10_copyFrom, 1, 1, 937, 136, 935, 936), (yX10_isGone, 1, 0, 858, 136, 856, 857), (yX10_letter, 1, 1, 1074, 136, 1072, 1073), (yX10_letterSet, 1, 0, 1078, 136, 1076, 1077), (yX10_wear, 1, 2, 1114, 136, 1112, 1113), (yX10_goAway, 1, 0, 1132, 136, 1130, 1131), (yX10_keepLost, 1, 0, 884, 136, 882, 883), (yX10_canRegain, 1, 0, 1235, 136, 1233, 1234), (yX10_regained, 1, 0, 1239, 136, 1237, 1238), (yX10_regain, 1, 0, 1247, 136, 1245, 1246)]
def jx_y7 : List jx_YT := [(yX11_init, 2, 0, 155, 130, 154, 0), (yX11_status, 1, 0, 576, 130, 574, 575), (yX11_top, 1, 0, 580, 130, 578, 579), (yX11_bottom, 1, 0, 584, 130, 582, 583), (yX11_tray, 1, 3, 588, 130, 586, 587), (yX11_write, 1, 3, 613, 130, 611, 612), (yX11_read, 1, 2, 638, 130, 636, 637), (yX11_pour, 1, 5, 650, 130, 648, 649), (yX11_feed, 1, 5, 657, 130, 655, 656), (yX11_village, 1, 1, 665, 130, 663, 664), (yX11_law, 1, 1, 951, 130, 949, 950), (yX11_fault, 1, 1, 1011, 130, 1009, 1010), (yX11_told, 1, 1, 1015, 130, 1013, 1014), (yX11_form, 1, 1, 1023, 130, 1021, 1022), (yX11_word, 1, 2, 1028, 130, 1026, 1027), (yX11_words, 1, 1, 1032, 130, 1030, 1031), (yX11_loses, 1, 1, 1044, 130, 1042, 1043), (yX11_chain, 1, 2, 1102, 130, 1100, 1101), (yX11_life, 1, 1, 1136, 130, 1134, 1135), (yX11_twin, 1, 2, 1145, 130, 1143, 1144)]
def jx_y8 : List jx_YT := [(yX11_common, 1, 2, 1150, 130, 1148, 1149), (yX11_rhymes, 1, 2, 1164, 130, 1162, 1163), (yX11_lone, 1, 0, 1173, 130, 1171, 1172), (yX11_mute, 1, 0, 1183, 130, 1181, 1182), (yX11_lasts, 1, 1, 1191, 130, 1189, 1190), (yX11_spread, 1, 1, 1215, 130, 1213, 1214), (yX11_wintry, 1, 0, 1227, 130, 1225, 1226), (yX11_say, 1, 1, 1252, 130, 1250, 1251), (yX11_tell, 1, 3, 1257, 130, 1255, 1256), (yX11_follows, 1, 2, 1287, 130, 1285, 1286), (yX11_knows, 1, 2, 1292, 130, 1290, 1291), (yX11_pass, 1, 1, 1297, 130, 1295, 1296), (yX11_winter, 1, 0, 1301, 130, 1299, 1300), (yX11_cut, 1, 5, 1306, 130, 1304, 1305), (yX11_bestCut, 1, 3, 1332, 130, 1330, 1331), (yX11_ways, 1, 2, 1341, 130, 1339, 1340), (yX11_fewest, 1, 2, 1390, 130, 1388, 1389), (yX11_fewestAt, 1, 1, 1407, 130, 1405, 1406), (yX11_howFar, 1, 2, 1411, 130, 1409, 1410), (yX11_cheap, 1, 1, 1424, 130, 1422, 1423)]
def jx_y9 : List jx_YT := [(yX11_story, 1, 2, 1429, 130, 1427, 1428), (yX11_readings, 1, 2, 1439, 130, 1437, 1438), (yX11_gossip, 1, 2, 1472, 130, 1470, 1471), (yX11_gossiped, 1, 1, 1503, 130, 1501, 1502), (yX11_odds, 1, 3, 1507, 130, 1505, 1506), (yX11_mark, 1, 0, 1515, 130, 1513, 1514), (yX11_back, 1, 0, 1519, 130, 1517, 1518), (yX11_fail, 1, 1, 642, 130, 641, 5), (yX11_give, 1, 1, 947, 130, 946, 19), (yX11_refuse, 1, 1, 595, 130, 594, 1), (yX11_allow, 1, 0, 609, 130, 608, 2), (yX11_isTray, 0, 1, 591, 130, 590, 0), (yX11_wrongPlace, 1, 2, 617, 130, 616, 3), (yX11_wrongRow, 1, 3, 1349, 130, 1348, 35), (yX11_wrongStory, 1, 2, 1345, 130, 1344, 34), (yX11_wrongWord, 1, 1, 1048, 130, 1047, 28), (yX11_wrongPair, 1, 2, 1154, 130, 1153, 30), (yX11_wrongCut, 1, 2, 1310, 130, 1309, 31), (yX11_wrongGossip, 1, 2, 1476, 130, 1475, 47), (yX11_append, 1, 1, 661, 130, 660, 6)]
def jx_y10 : List jx_YT := [(yX11_keepFault, 1, 0, 929, 130, 928, 18), (yX11_tellFraction, 1, 2, 1511, 130, 1510, 49), (yX12_init, 2, 0, 1524, 141, 1523, 0), (yX12_softens, 1, 1, 1529, 141, 1528, 50), (yX12_status, 1, 0, 1679, 141, 1677, 1678), (yX12_top, 1, 0, 1683, 141, 1681, 1682), (yX12_bottom, 1, 0, 1687, 141, 1685, 1686), (yX12_is, 1, 1, 1698, 141, 1697, 51), (yX12_refuse, 1, 1, 1758, 141, 1757, 57), (yX12_gives, 1, 1, 1849, 141, 1848, 78), (yX12_orNone, 1, 1, 1925, 141, 1924, 93), (yX12_givesLong, 1, 1, 1913, 141, 1912, 91), (yX12_tellsBy, 1, 2, 2207, 141, 2206, 127), (yX12_isTray, 0, 1, 1694, 141, 1693, 0), (yX12_cutTo, 0, 2, 1709, 141, 1708, 0), (yX12_tray, 1, 3, 1691, 141, 1689, 1690), (yX12_wrongPlace, 1, 2, 1706, 141, 1705, 52), (yX12_write, 1, 3, 1702, 141, 1700, 1701), (yX12_read, 1, 2, 1713, 141, 1711, 1712), (yX12_pour, 1, 5, 1718, 141, 1716, 1717)]
def jx_y11 : List jx_YT := [(yX12_isFrom, 0, 3, 2101, 141, 2100, 0), (yX12_feed, 1, 5, 1722, 141, 1720, 1721), (yX12_four, 1, 1, 1726, 141, 1725, 53), (yX12_byteAt, 1, 1, 1746, 141, 1745, 56), (yX12_isSmall, 0, 1, 1749, 141, 1748, 0), (yX12_isDigit, 0, 1, 1752, 141, 1751, 0), (yX12_ahead, 1, 0, 1742, 141, 1741, 55), (yX12_isSign, 1, 1, 1828, 141, 1827, 73), (yX12_inWords, 1, 1, 1767, 141, 1766, 59), (yX12_fails, 1, 1, 1777, 141, 1776, 61), (yX12_begins, 1, 2, 1738, 141, 1737, 54), (yX12_wantSign, 1, 1, 1824, 141, 1823, 72), (yX12_wantWord, 1, 2, 1808, 141, 1807, 68), (yX12_isName, 1, 1, 1785, 141, 1784, 63), (yX12_nameHere, 1, 0, 1793, 141, 1792, 65), (yX12_findHere, 1, 2, 1789, 141, 1788, 64), (yX12_fault, 1, 1, 1730, 141, 1728, 1729), (yX12_taken, 1, 1, 1845, 141, 1844, 77), (yX12_bits, 0, 1, 2026, 141, 2025, 0), (yX12_rowOf, 0, 2, 1800, 141, 1799, 0)]
def jx_y12 : List jx_YT := [(yX12_aNewName, 1, 1, 1781, 141, 1780, 62), (yX12_aMeaning, 1, 0, 1773, 141, 1772, 60), (yX12_aSpeaker, 1, 0, 1816, 141, 1815, 70), (yX12_areLike, 1, 2, 1804, 141, 1803, 67), (yX12_fresh, 1, 2, 1812, 141, 1811, 69), (yX12_aWord, 1, 0, 1797, 141, 1796, 66), (yX12_areSoft, 1, 0, 1820, 141, 1819, 71), (yX12_villagePart, 1, 0, 1762, 141, 1761, 58), (yX12_village, 1, 1, 1734, 141, 1732, 1733), (yX12_asksAlso, 1, 1, 1877, 141, 1876, 84), (yX12_isDoing, 1, 1, 1885, 141, 1884, 86), (yX12_does, 1, 1, 1869, 141, 1868, 82), (yX12_joins, 1, 0, 1889, 141, 1888, 87), (yX12_turnsRound, 1, 0, 1881, 141, 1880, 85), (yX12_isOpen, 1, 0, 1893, 141, 1892, 88), (yX12_aCase, 1, 1, 1873, 141, 1872, 83), (yX12_aOne, 1, 0, 1865, 141, 1864, 81), (yX12_conditions, 1, 0, 1861, 141, 1860, 80), (yX12_aRule, 1, 0, 1857, 141, 1856, 79), (yX12_law, 1, 1, 1853, 141, 1851, 1852)]
def jx_y13 : List jx_YT := [(yX12_loads, 1, 1, 1836, 141, 1835, 75), (yX12_numberHere, 1, 0, 1840, 141, 1839, 76), (yX12_formOf, 1, 2, 1832, 141, 1831, 74), (yX12_isVowel, 0, 1, 1970, 141, 1969, 0), (yX12_isSuch, 0, 2, 1967, 141, 1966, 0), (yX12_asked, 1, 5, 1964, 141, 1963, 100), (yX12_holds, 1, 5, 1960, 141, 1959, 99), (yX12_softAt, 1, 1, 1978, 141, 1977, 102), (yX12_placeBy, 1, 1, 1974, 141, 1973, 101), (yX12_goes, 1, 4, 1956, 141, 1955, 98), (yX12_drops, 1, 1, 1994, 141, 1993, 105), (yX12_isMany, 0, 1, 1948, 141, 1947, 0), (yX12_idleOf, 1, 2, 1952, 141, 1951, 97), (yX12_isGone, 1, 1, 2050, 141, 2049, 111), (yX12_joinsTwo, 1, 3, 2054, 141, 2053, 112), (yX12_says, 1, 2, 2046, 141, 2045, 110), (yX12_areNear, 0, 2, 2085, 141, 2084, 0), (yX12_tells, 1, 5, 2082, 141, 2081, 115), (yX12_winters, 1, 1, 2066, 141, 2065, 113), (yX12_isWord, 1, 1, 1909, 141, 1908, 90)]
def jx_y14 : List jx_YT := [(yX12_isMeaning, 1, 1, 1933, 141, 1932, 94), (yX12_isSpeaker, 1, 1, 2078, 141, 2077, 114), (yX12_ofWord, 1, 2, 1921, 141, 1920, 92), (yX12_leftIn, 1, 1, 1901, 141, 1900, 89), (yX12_told, 1, 1, 1897, 141, 1895, 1896), (yX12_form, 1, 1, 1905, 141, 1903, 1904), (yX12_word, 1, 2, 1917, 141, 1915, 1916), (yX12_wordsOf, 1, 2, 1937, 141, 1936, 95), (yX12_words, 1, 1, 1929, 141, 1927, 1928), (yX12_wrongWord, 1, 1, 1945, 141, 1944, 96), (yX12_loses, 1, 1, 1941, 141, 1939, 1940), (yX12_chains, 1, 4, 1990, 141, 1989, 104), (yX12_chainsWord, 1, 1, 1986, 141, 1985, 103), (yX12_lifeHere, 1, 0, 2002, 141, 2001, 106), (yX12_chain, 1, 2, 1982, 141, 1980, 1981), (yX12_life, 1, 1, 1998, 141, 1996, 1997), (yX12_twin, 1, 2, 2006, 141, 2004, 2005), (yX12_common, 1, 2, 2010, 141, 2008, 2009), (yX12_rhyme, 1, 3, 2019, 141, 2018, 107), (yX12_rhymes, 1, 2, 2015, 141, 2013, 2014)]
def jx_y15 : List jx_YT := [(yX12_lone, 1, 0, 2023, 141, 2021, 2022), (yX12_mute, 1, 0, 2030, 141, 2028, 2029), (yX12_lays, 1, 2, 2038, 141, 2037, 108), (yX12_cheapIn, 1, 2, 2042, 141, 2041, 109), (yX12_lasts, 1, 1, 2034, 141, 2032, 2033), (yX12_spread, 1, 1, 2058, 141, 2056, 2057), (yX12_wintry, 1, 0, 2062, 141, 2060, 2061), (yX12_say, 1, 1, 2070, 141, 2068, 2069), (yX12_tell, 1, 3, 2074, 141, 2072, 2073), (yX12_follows, 1, 2, 2089, 141, 2087, 2088), (yX12_knows, 1, 2, 2093, 141, 2091, 2092), (yX12_pass, 1, 1, 2097, 141, 2095, 2096), (yX12_winter, 1, 0, 2105, 141, 2103, 2104), (yX12_cuts, 1, 4, 2113, 141, 2112, 116), (yX12_isAlike, 1, 0, 2117, 141, 2116, 117), (yX12_cut, 1, 5, 2109, 141, 2107, 2108), (yX12_bestCut, 1, 3, 2121, 141, 2119, 2120), (yX12_wrongStory, 1, 2, 2129, 141, 2128, 118), (yX12_meaningAt, 1, 2, 2138, 141, 2137, 120), (yX12_goesThrough, 1, 2, 2134, 141, 2133, 119)]
def jx_y16 : List jx_YT := [(yX12_ways, 1, 2, 2125, 141, 2123, 2124), (yX12_fewest, 1, 2, 2142, 141, 2140, 2141), (yX12_fewestAt, 1, 1, 2146, 141, 2144, 2145), (yX12_howFar, 1, 2, 2150, 141, 2148, 2149), (yX12_cheap, 1, 1, 2154, 141, 2152, 2153), (yX12_story, 1, 2, 2158, 141, 2156, 2157), (yX12_findsOn, 1, 3, 2171, 141, 2170, 122), (yX12_placeIn, 1, 2, 2167, 141, 2166, 121), (yX12_readings, 1, 2, 2162, 141, 2160, 2161), (yX12_draw, 1, 1, 2193, 141, 2192, 126), (yX12_canGossip, 1, 0, 2181, 141, 2180, 123), (yX12_gossips, 1, 2, 2189, 141, 2188, 125), (yX12_begins0, 1, 0, 2185, 141, 2184, 124), (yX12_gossip, 1, 2, 2175, 141, 2173, 2174), (yX12_gossiped, 1, 1, 2198, 141, 2196, 2197), (yX12_odds, 1, 3, 2202, 141, 2200, 2201), (yX12_copies, 1, 2, 2215, 141, 2214, 128), (yX12_mark, 1, 0, 2211, 141, 2209, 2210), (yX12_back, 1, 0, 2219, 141, 2217, 2218), (yJ0_length_8abf5, 1, 0, 690, 144, 688, 689)]
def jx_y17 : List jx_YT := [(yJ0_charAt_5068e, 1, 1, 700, 144, 698, 699), (yJ0_indexOf_0f7a4, 1, 1, 744, 144, 742, 743), (yJ0_indexOf_7cf53, 1, 2, 748, 144, 746, 747), (yJ0_coder_7d493, 1, 0, 694, 144, 692, 693), (yJ0_isLatin1_aae02, 1, 0, 704, 144, 702, 703), (yJ0_checkIndex_df160, 0, 2, 710, 144, 709, 0), (yJ1_charAt_3b067, 0, 2, 707, 145, 706, 0), (yJ1_canEncode_9a6ad, 0, 1, 755, 145, 754, 0), (yJ1_indexOf_4cfef, 0, 4, 752, 145, 751, 0), (yJ1_indexOfChar_4cfef, 0, 4, 760, 145, 759, 0), (yJ3_checkIndex_8e157, 0, 3, 715, 146, 714, 0), (yJ6_bitCount_0f7a4, 0, 1, 1067, 149, 1066, 0), (yJ6_numberOfLeadingZeros_0f7a4, 0, 1, 1463, 149, 1462, 0)]
def jx_y : List jx_YT := jx_y0 ++ (jx_y1 ++ (jx_y2 ++ (jx_y3 ++ (jx_y4 ++ (jx_y5 ++ (jx_y6 ++ (jx_y7 ++ (jx_y8 ++ (jx_y9 ++ (jx_y10 ++ (jx_y11 ++ (jx_y12 ++ (jx_y13 ++ (jx_y14 ++ (jx_y15 ++ (jx_y16 ++ (jx_y17)))))))))))))))))
def jx_cok (i : Nat) (y : MethodName) (t : Nat × Nat × Nat × jm_Cd) : Bool := match lw_tbl[i]? with
  | some (.code y' b m r) => decide (y' = y) && Nat.beq m t.2.2.1 && decide (r = jx_rt t.2.1) && goodWord (.code y' b m r) && jx_ck b t.2.2.2
  | _ => false
def jx_mok (q : jx_YT) (t : Nat × Nat × Nat × jm_Cd) : Bool :=
  jx_cok q.2.2.2.1 q.1 t && jx_at q.2.2.2.2.1 (.initialized q.1.cls) &&
  (match q.2.1 with
    | 0 => jx_at q.2.2.2.2.2.1 (.static q.1)
    | 1 => jx_at q.2.2.2.2.2.1 (.instanceMethod q.1) && jx_at q.2.2.2.2.2.2 (.selects q.1.cls q.1 q.1)
    | _ => jx_at q.2.2.2.2.2.1 (.instanceMethod q.1) && decide (q.1.name = "<init>") && Nat.beq t.2.1 0) &&
  decide (q.1.cls ≠ "java/lang/invoke/MethodHandle") && decide (q.1.cls ≠ "java/lang/invoke/VarHandle") && plainName q.1.cls && decide (jm_cn[t.1]? = some q.1.cls) &&
  decide ((parseMethodDescriptor q.1.desc).map (fun d => d.parameters.length) = some q.2.2.1) && Nat.ble t.2.2.1 60 && Nat.ble t.2.1 5 && (decide (q.1.name = "<init>") || jx_nop t.1 t.2.2.2)
