/-! the tables' words that the code links, by their places -/
def bigW : List Cond := lw_tbl.filter goodWord
theorem bw {i : Nat} {w : Cond} (h : lw_tbl[i]? = some w) (g : goodWord w = true) : w ∈ bigW := List.mem_filter.mpr ⟨List.mem_of_getElem? h, g⟩
theorem bigW_tbl {w : Cond} (h : w ∈ bigW) : w ∈ lw_tbl := (List.mem_filter.mp h).1
theorem bigW_good {w : Cond} (h : w ∈ bigW) : (w.onTables && w.keeps) = true ∨ ∃ ty, w = .arrayClass ty := good_of_word (List.mem_filter.mp h).2
theorem goodIn_big {ws : List Cond} (h : ∀ w ∈ ws, w ∈ bigW) : GoodIn bigW ws := fun w hw => ⟨h w hw, bigW_good (h w hw)⟩
theorem layW {C : String} {T : u_T} {N : Nat} (ps : List Nat) (h : ∀ k, k < N → lw_tbl[ps.getD k 0]? = some (u_lay C T k)) : ∀ w ∈ u_ws C T N, w ∈ bigW := by
  intro w hw
  obtain ⟨k, hk, rfl⟩ := List.mem_map.mp hw
  refine bw (h k (List.mem_range.mp hk)) ?_
  unfold u_lay
  split <;> rfl
theorem lay_0 : ∀ w ∈ u_ws RX0 TX0 7, w ∈ bigW := layW [592, 594, 596, 598, 600, 602, 604] (by decide +kernel)
theorem lay_1 : ∀ w ∈ u_ws RX1 TX1 5, w ∈ bigW := layW [304, 306, 308, 310, 312] (by decide +kernel)
theorem lay_2 : ∀ w ∈ u_ws RX2 TX2 2, w ∈ bigW := layW [157, 159] (by decide +kernel)
theorem lay_3 : ∀ w ∈ u_ws RX3 TX3 4, w ∈ bigW := layW [805, 807, 809, 811] (by decide +kernel)
theorem lay_4 : ∀ w ∈ u_ws RX4 TX4 1, w ∈ bigW := layW [284] (by decide +kernel)
theorem lay_5 : ∀ w ∈ u_ws RX5 TX5 5, w ∈ bigW := layW [370, 372, 374, 376, 378] (by decide +kernel)
theorem lay_6 : ∀ w ∈ u_ws RX6 TX6 5, w ∈ bigW := layW [348, 350, 352, 354, 356] (by decide +kernel)
theorem lay_7 : ∀ w ∈ u_ws RX7 TX7 3, w ∈ bigW := layW [397, 399, 401] (by decide +kernel)
theorem lay_8 : ∀ w ∈ u_ws RX8 TX8 7, w ∈ bigW := layW [192, 194, 196, 198, 200, 202, 204] (by decide +kernel)
theorem lay_9 : ∀ w ∈ u_ws RX9 TX9 2, w ∈ bigW := layW [325, 327] (by decide +kernel)
theorem lay_10 : ∀ w ∈ u_ws RX10 TX10 1, w ∈ bigW := layW [269] (by decide +kernel)
theorem lay_11 : ∀ w ∈ u_ws RX11 TX11 8, w ∈ bigW := layW [412, 414, 416, 418, 420, 422, 424, 426] (by decide +kernel)
theorem lay_12 : ∀ w ∈ u_ws RX12 TX12 54, w ∈ bigW := layW [1066, 1068, 1070, 1072, 1074, 1076, 1078, 1080, 1082, 1084, 1086, 1088, 1090, 1092, 1094, 1096, 1098, 1100, 1102, 1104, 1106, 1108, 1110, 1112, 1114, 1116, 1118, 1120, 1122, 1124, 1126, 1128, 1130, 1132, 1134, 1136, 1138, 1140, 1142, 1144, 1146, 1148, 1150, 1152, 1154, 1156, 1158, 1160, 1162, 1164, 1166, 1168, 1170, 1172] (by decide +kernel)
theorem lay_13 : ∀ w ∈ u_ws RJx4a65c TJx4a65c 3, w ∈ bigW := layW [122, 118, 120] (by decide +kernel)
theorem ins_ok : ∀ k, k < 14 → lw_tbl[([558, 288, 143, 785, 275, 360, 331, 382, 134, 316, 94, 86, 1005, 100] : List Nat).getD k 0]? = some (.instantiable (cNm k) (cRow k).2.2) := by decide +kernel
theorem ini_ok : ∀ k, k < 23 → lw_tbl[([82, 74, 68, 84, 73, 77, 76, 78, 67, 75, 63, 62, 79, 66, 65, 64, 71, 80, 81, 69, 83, 70, 72] : List Nat).getD k 0]? = some (.initialized (cNm k)) := by decide +kernel
def mPc : List Nat := [561, 624, 671, 679, 921, 291, 998, 766, 834, 780, 931, 940, 983, 146, 745, 499, 864, 518, 534, 887, 891, 900, 895, 904, 908, 912, 916, 788, 825, 278, 551, 615, 619, 556, 704, 649, 642, 631, 658, 714, 363, 722, 733, 737, 750, 727, 829, 770, 758, 762, 754, 334, 1003, 710, 927, 385, 844, 849, 935, 137, 475, 663, 635, 741, 319, 839, 853, 883, 857, 870, 874, 879, 97, 128, 466, 436, 444, 462, 470, 530, 962, 89, 432, 491, 495, 503, 522, 526, 539, 543, 547, 611, 654, 667, 675, 685, 695, 700, 945, 949, 953, 958, 966, 971, 979, 988, 992, 514, 638, 511, 507, 718, 1008, 1186, 1183, 1243, 1179, 1190, 1194, 1203, 1207, 1199, 1211, 1219, 1223, 1215, 1227, 1231, 1235, 1255, 1251, 1259, 1239, 1247, 1263, 1267, 1271, 1275, 1279, 1295, 1291, 1303, 1299, 1287, 1306, 1283, 1320, 1316, 1312, 1340, 1360, 1372, 1392, 1396, 1352, 1364, 1368, 1380, 1388, 1376, 1384, 1356, 1348, 1420, 1408, 1412, 1404, 1344, 1400, 1416, 1328, 1332, 1336, 1324, 1424, 1428, 1432, 1436, 1441, 1445, 1449, 688, 109, 106, 103, 222, 218, 440, 784, 458, 448, 214, 210, 482, 817, 821, 132, 486, 235, 256, 451, 225, 232, 454]
def mPi : List Nat := [560, 622, 669, 677, 919, 290, 996, 764, 832, 778, 929, 938, 981, 145, 743, 497, 862, 516, 532, 885, 889, 898, 893, 902, 906, 911, 914, 787, 823, 277, 549, 613, 617, 554, 702, 647, 640, 629, 656, 712, 362, 720, 732, 736, 749, 726, 827, 768, 756, 761, 752, 333, 1001, 708, 925, 384, 842, 847, 933, 136, 473, 661, 633, 739, 318, 837, 852, 882, 856, 869, 873, 878, 96, 126, 464, 434, 442, 460, 468, 528, 960, 88, 430, 489, 493, 501, 520, 524, 537, 541, 545, 609, 652, 665, 673, 683, 693, 698, 943, 947, 951, 956, 964, 969, 977, 986, 990, 513, 637, 510, 506, 717, 1007, 1185, 1182, 1242, 1177, 1188, 1192, 1202, 1206, 1197, 1209, 1218, 1222, 1213, 1225, 1229, 1233, 1254, 1250, 1258, 1237, 1246, 1261, 1265, 1269, 1273, 1277, 1294, 1290, 1302, 1298, 1286, 1305, 1281, 1319, 1315, 1310, 1339, 1359, 1371, 1391, 1395, 1351, 1363, 1367, 1379, 1387, 1375, 1383, 1355, 1347, 1419, 1407, 1411, 1403, 1343, 1399, 1415, 1327, 1331, 1335, 1322, 1422, 1426, 1430, 1434, 1439, 1443, 1447, 687, 108, 105, 102, 221, 217, 438, 782, 456, 446, 213, 208, 480, 815, 820, 130, 485, 234, 255, 450, 224, 231, 453]
def mPs : List Nat := [0, 623, 670, 678, 920, 0, 997, 765, 833, 779, 930, 939, 982, 0, 744, 498, 863, 517, 533, 886, 890, 899, 894, 903, 907, 19, 915, 0, 824, 0, 550, 614, 618, 555, 703, 648, 641, 630, 657, 713, 0, 721, 8, 9, 10, 7, 828, 769, 757, 11, 753, 0, 1002, 709, 926, 0, 843, 848, 934, 0, 474, 662, 634, 740, 0, 838, 13, 18, 14, 15, 16, 17, 0, 127, 465, 435, 443, 461, 469, 529, 961, 0, 431, 490, 494, 502, 521, 525, 538, 542, 546, 610, 653, 666, 674, 684, 694, 699, 944, 948, 952, 957, 965, 970, 978, 987, 991, 0, 0, 5, 4, 6, 0, 0, 20, 25, 1178, 1189, 1193, 21, 22, 1198, 1210, 23, 24, 1214, 1226, 1230, 1234, 28, 27, 29, 1238, 26, 1262, 1266, 1270, 1274, 1278, 32, 31, 34, 33, 30, 0, 1282, 36, 35, 1311, 40, 45, 48, 53, 54, 43, 46, 47, 50, 52, 49, 51, 44, 42, 60, 57, 58, 56, 41, 55, 59, 37, 38, 39, 1323, 1423, 1427, 1431, 1435, 1440, 1444, 1448, 0, 0, 0, 0, 2, 1, 439, 783, 457, 447, 0, 209, 481, 816, 12, 131, 3, 0, 0, 0, 0, 0, 0]
def mSt : List Bool := [false, false, false, false, false, false, false, false, false, false, false, false, false, false, false, false, false, false, false, false, false, false, false, false, false, false, false, false, false, false, false, false, false, false, false, false, false, false, false, false, false, false, false, false, false, false, false, false, false, false, false, false, false, false, false, false, false, false, false, false, false, false, false, false, false, false, false, false, false, false, false, false, false, false, false, false, false, false, false, false, false, false, false, false, false, false, false, false, false, false, false, false, false, false, false, false, false, false, false, false, false, false, false, false, false, false, false, true, true, false, false, false, false, true, false, false, false, false, false, false, false, false, false, false, false, false, false, false, false, false, false, false, false, false, false, false, false, false, false, false, false, false, false, false, true, false, false, false, false, false, false, false, false, false, false, false, false, false, false, false, false, false, false, false, false, false, false, false, false, false, false, false, false, false, false, false, false, false, false, false, false, true, false, false, false, false, false, false, false, false, false, false, false, false, false, false, false, false, true, true, true, true, true, true]
set_option maxRecDepth 100000 in
theorem mc_ok_0 : ∀ m, m < 26 → 0 ≤ m → lw_tbl[mPc.getD m 0]? = some (.code (mY m) (mB m) (mL m) (mR m)) := by decide +kernel
set_option maxRecDepth 100000 in
theorem mc_ok_1 : ∀ m, m < 52 → 26 ≤ m → lw_tbl[mPc.getD m 0]? = some (.code (mY m) (mB m) (mL m) (mR m)) := by decide +kernel
set_option maxRecDepth 100000 in
theorem mc_ok_2 : ∀ m, m < 78 → 52 ≤ m → lw_tbl[mPc.getD m 0]? = some (.code (mY m) (mB m) (mL m) (mR m)) := by decide +kernel
set_option maxRecDepth 100000 in
theorem mc_ok_3 : ∀ m, m < 104 → 78 ≤ m → lw_tbl[mPc.getD m 0]? = some (.code (mY m) (mB m) (mL m) (mR m)) := by decide +kernel
set_option maxRecDepth 100000 in
theorem mc_ok_4 : ∀ m, m < 130 → 104 ≤ m → lw_tbl[mPc.getD m 0]? = some (.code (mY m) (mB m) (mL m) (mR m)) := by decide +kernel
set_option maxRecDepth 100000 in
theorem mc_ok_5 : ∀ m, m < 156 → 130 ≤ m → lw_tbl[mPc.getD m 0]? = some (.code (mY m) (mB m) (mL m) (mR m)) := by decide +kernel
set_option maxRecDepth 100000 in
theorem mc_ok_6 : ∀ m, m < 182 → 156 ≤ m → lw_tbl[mPc.getD m 0]? = some (.code (mY m) (mB m) (mL m) (mR m)) := by decide +kernel
set_option maxRecDepth 100000 in
theorem mc_ok_7 : ∀ m, m < 204 → 182 ≤ m → lw_tbl[mPc.getD m 0]? = some (.code (mY m) (mB m) (mL m) (mR m)) := by decide +kernel
theorem mc_ok : ∀ m, m < 204 → lw_tbl[mPc.getD m 0]? = some (.code (mY m) (mB m) (mL m) (mR m)) := fun m h => if h0 : m < 26 then mc_ok_0 m h0 (Nat.zero_le m) else if h1 : m < 52 then mc_ok_1 m h1 (Nat.not_lt.mp h0) else if h2 : m < 78 then mc_ok_2 m h2 (Nat.not_lt.mp h1) else if h3 : m < 104 then mc_ok_3 m h3 (Nat.not_lt.mp h2) else if h4 : m < 130 then mc_ok_4 m h4 (Nat.not_lt.mp h3) else if h5 : m < 156 then mc_ok_5 m h5 (Nat.not_lt.mp h4) else if h6 : m < 182 then mc_ok_6 m h6 (Nat.not_lt.mp h5) else mc_ok_7 m h (Nat.not_lt.mp h6)
set_option maxRecDepth 100000 in
theorem mi_ok_0 : ∀ m, m < 26 → 0 ≤ m → lw_tbl[mPi.getD m 0]? = some (if mSt.getD m false then .static (mY m) else .instanceMethod (mY m)) := by decide +kernel
set_option maxRecDepth 100000 in
theorem mi_ok_1 : ∀ m, m < 52 → 26 ≤ m → lw_tbl[mPi.getD m 0]? = some (if mSt.getD m false then .static (mY m) else .instanceMethod (mY m)) := by decide +kernel
set_option maxRecDepth 100000 in
theorem mi_ok_2 : ∀ m, m < 78 → 52 ≤ m → lw_tbl[mPi.getD m 0]? = some (if mSt.getD m false then .static (mY m) else .instanceMethod (mY m)) := by decide +kernel
set_option maxRecDepth 100000 in
theorem mi_ok_3 : ∀ m, m < 104 → 78 ≤ m → lw_tbl[mPi.getD m 0]? = some (if mSt.getD m false then .static (mY m) else .instanceMethod (mY m)) := by decide +kernel
set_option maxRecDepth 100000 in
theorem mi_ok_4 : ∀ m, m < 130 → 104 ≤ m → lw_tbl[mPi.getD m 0]? = some (if mSt.getD m false then .static (mY m) else .instanceMethod (mY m)) := by decide +kernel
set_option maxRecDepth 100000 in
theorem mi_ok_5 : ∀ m, m < 156 → 130 ≤ m → lw_tbl[mPi.getD m 0]? = some (if mSt.getD m false then .static (mY m) else .instanceMethod (mY m)) := by decide +kernel
set_option maxRecDepth 100000 in
theorem mi_ok_6 : ∀ m, m < 182 → 156 ≤ m → lw_tbl[mPi.getD m 0]? = some (if mSt.getD m false then .static (mY m) else .instanceMethod (mY m)) := by decide +kernel
set_option maxRecDepth 100000 in
theorem mi_ok_7 : ∀ m, m < 204 → 182 ≤ m → lw_tbl[mPi.getD m 0]? = some (if mSt.getD m false then .static (mY m) else .instanceMethod (mY m)) := by decide +kernel
theorem mi_ok : ∀ m, m < 204 → lw_tbl[mPi.getD m 0]? = some (if mSt.getD m false then .static (mY m) else .instanceMethod (mY m)) := fun m h => if h0 : m < 26 then mi_ok_0 m h0 (Nat.zero_le m) else if h1 : m < 52 then mi_ok_1 m h1 (Nat.not_lt.mp h0) else if h2 : m < 78 then mi_ok_2 m h2 (Nat.not_lt.mp h1) else if h3 : m < 104 then mi_ok_3 m h3 (Nat.not_lt.mp h2) else if h4 : m < 130 then mi_ok_4 m h4 (Nat.not_lt.mp h3) else if h5 : m < 156 then mi_ok_5 m h5 (Nat.not_lt.mp h4) else if h6 : m < 182 then mi_ok_6 m h6 (Nat.not_lt.mp h5) else mi_ok_7 m h (Nat.not_lt.mp h6)
set_option maxRecDepth 100000 in
theorem mn_ok_0 : ∀ m, m < 26 → 0 ≤ m → ((mY m).cls = cNm (mC m) ∧ mC m < 23 ∧ (mY m).cls ≠ "java/lang/invoke/MethodHandle" ∧ (mY m).cls ≠ "java/lang/invoke/VarHandle" ∧ plainName (mY m).cls = true) := by decide +kernel
set_option maxRecDepth 100000 in
theorem mn_ok_1 : ∀ m, m < 52 → 26 ≤ m → ((mY m).cls = cNm (mC m) ∧ mC m < 23 ∧ (mY m).cls ≠ "java/lang/invoke/MethodHandle" ∧ (mY m).cls ≠ "java/lang/invoke/VarHandle" ∧ plainName (mY m).cls = true) := by decide +kernel
set_option maxRecDepth 100000 in
theorem mn_ok_2 : ∀ m, m < 78 → 52 ≤ m → ((mY m).cls = cNm (mC m) ∧ mC m < 23 ∧ (mY m).cls ≠ "java/lang/invoke/MethodHandle" ∧ (mY m).cls ≠ "java/lang/invoke/VarHandle" ∧ plainName (mY m).cls = true) := by decide +kernel
set_option maxRecDepth 100000 in
theorem mn_ok_3 : ∀ m, m < 104 → 78 ≤ m → ((mY m).cls = cNm (mC m) ∧ mC m < 23 ∧ (mY m).cls ≠ "java/lang/invoke/MethodHandle" ∧ (mY m).cls ≠ "java/lang/invoke/VarHandle" ∧ plainName (mY m).cls = true) := by decide +kernel
set_option maxRecDepth 100000 in
theorem mn_ok_4 : ∀ m, m < 130 → 104 ≤ m → ((mY m).cls = cNm (mC m) ∧ mC m < 23 ∧ (mY m).cls ≠ "java/lang/invoke/MethodHandle" ∧ (mY m).cls ≠ "java/lang/invoke/VarHandle" ∧ plainName (mY m).cls = true) := by decide +kernel
set_option maxRecDepth 100000 in
theorem mn_ok_5 : ∀ m, m < 156 → 130 ≤ m → ((mY m).cls = cNm (mC m) ∧ mC m < 23 ∧ (mY m).cls ≠ "java/lang/invoke/MethodHandle" ∧ (mY m).cls ≠ "java/lang/invoke/VarHandle" ∧ plainName (mY m).cls = true) := by decide +kernel
set_option maxRecDepth 100000 in
theorem mn_ok_6 : ∀ m, m < 182 → 156 ≤ m → ((mY m).cls = cNm (mC m) ∧ mC m < 23 ∧ (mY m).cls ≠ "java/lang/invoke/MethodHandle" ∧ (mY m).cls ≠ "java/lang/invoke/VarHandle" ∧ plainName (mY m).cls = true) := by decide +kernel
set_option maxRecDepth 100000 in
theorem mn_ok_7 : ∀ m, m < 204 → 182 ≤ m → ((mY m).cls = cNm (mC m) ∧ mC m < 23 ∧ (mY m).cls ≠ "java/lang/invoke/MethodHandle" ∧ (mY m).cls ≠ "java/lang/invoke/VarHandle" ∧ plainName (mY m).cls = true) := by decide +kernel
theorem mn_ok : ∀ m, m < 204 → ((mY m).cls = cNm (mC m) ∧ mC m < 23 ∧ (mY m).cls ≠ "java/lang/invoke/MethodHandle" ∧ (mY m).cls ≠ "java/lang/invoke/VarHandle" ∧ plainName (mY m).cls = true) := fun m h => if h0 : m < 26 then mn_ok_0 m h0 (Nat.zero_le m) else if h1 : m < 52 then mn_ok_1 m h1 (Nat.not_lt.mp h0) else if h2 : m < 78 then mn_ok_2 m h2 (Nat.not_lt.mp h1) else if h3 : m < 104 then mn_ok_3 m h3 (Nat.not_lt.mp h2) else if h4 : m < 130 then mn_ok_4 m h4 (Nat.not_lt.mp h3) else if h5 : m < 156 then mn_ok_5 m h5 (Nat.not_lt.mp h4) else if h6 : m < 182 then mn_ok_6 m h6 (Nat.not_lt.mp h5) else mn_ok_7 m h (Nat.not_lt.mp h6)
def zSelOk (m : Nat) : Bool := decide (lw_tbl[mPs.getD m 0]? = some (.selects (mY m).cls (mY m) (mY m)))
