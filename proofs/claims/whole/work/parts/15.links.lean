/-- the words that last over calls, and those that do so by laws of their own -/
def rx_use (w : Cond) : Bool := goodWord w || (match w with
  | .methodLinkNest _ _ _ _ => true
  | .arrayOver _ => true
  | _ => false)
def rx_tb : List Cond := lw_tbl.filter rx_use
/-- a word by its place -/
theorem rx_in_tbl {ws : List Cond} (ps : List Nat) (h : ws = ps.filterMap (fun i => lw_tbl[i]?)) (hu : ws.all rx_use = true := by decide +kernel) : ∀ w ∈ ws, w ∈ rx_tb := by
  intro w hw
  have hw2 := hw
  rw [h] at hw
  obtain ⟨i, -, hi⟩ := List.mem_filterMap.mp hw
  exact List.mem_filter.mpr ⟨List.mem_of_getElem? hi, List.all_eq_true.mp hu w hw2⟩
theorem rx_in_tb1 {w : Cond} (i : Nat) (h : lw_tbl[i]? = some w) (hu : rx_use w = true) : w ∈ rx_tb := List.mem_filter.mpr ⟨List.mem_of_getElem? h, hu⟩
def rx_own (ct : Nat) : String := rx_cn.getD ct ""
def rx_flw (q : Nat × Nat × Nat) : Cond := match rx_cls[q.2.2 / 64]? with
  | some (C, T, _) => .fieldLink (rx_own q.1) q.2.1 C (T (q.2.2 % 64)).2.1 (T (q.2.2 % 64)).2.2.1
  | none => .initialized ""
set_option maxRecDepth 100000 in
theorem rx_fl_in : ∀ w ∈ rx_fl.map rx_flw, w ∈ rx_tb := rx_in_tbl [282, 287, 288, 292, 296, 299, 306, 311, 316, 321, 324, 328, 330, 332, 333, 230, 232, 234, 236, 237, 238, 220, 223, 224, 228, 229, 134, 136, 152, 154, 156, 313, 516, 515, 221, 471, 468, 469, 470, 289, 322, 438, 317, 312, 329, 302, 283, 325, 426, 427, 428, 429, 430, 431, 432, 433, 434, 435, 436, 437, 424, 425, 301, 297, 393, 386, 294, 285, 371, 373, 490, 492, 493, 494, 488, 489, 307, 398, 303, 395, 390, 383, 290, 241, 382, 387, 389, 394, 397, 381, 300, 374, 291, 372, 315, 320, 327, 331, 310, 295, 298, 286, 227, 242, 1014, 1015, 1016, 1017, 1018, 1019, 1020, 1021, 1022, 1012, 1013, 225, 239, 391, 384, 293, 305, 319, 235, 308, 528, 529, 530, 531, 523, 524, 525, 526, 527, 231, 233, 396, 240, 392, 304, 318, 326, 323, 309, 385, 314, 472, 388, 375, 495, 491, 284, 226, 135, 137, 517, 222, 157, 155, 153, 1204, 1205, 1208, 1209, 1210, 1211, 1212, 1213, 1214, 1215, 1216, 1217, 1218, 1219, 1220, 1221, 1223, 1224, 1225, 1227, 1228, 1229, 1230, 1231, 1233, 1236, 1238, 1239, 1240, 1241, 1242, 1243, 1245, 1246, 1247, 1248, 1250, 1252, 1253, 1255, 1256, 1257, 1258, 1259, 1260, 1201, 1202, 1203, 1234, 1235, 1207, 1222, 1237, 1244, 1249, 1206, 1226, 1254, 1251, 1232] (by decide +kernel)
theorem rx_fl_cl : rx_fl.all (fun q => match rx_cls[q.2.2 / 64]? with
  | some (C, T, N) => decide (q.2.2 % 64 < N) && decide ((T (q.2.2 % 64)).1 = C)
  | none => false) = true := by decide +kernel
def rx_objinit : MethodName := ⟨"java/lang/Object", "<init>", "()V"⟩
def rx_acopy : MethodName := ⟨"java/lang/System", "arraycopy", "(Ljava/lang/Object;ILjava/lang/Object;II)V"⟩
def rx_mlw (q : Nat × Nat × Nat) : Cond := .methodLink (rx_own q.1) q.2.1 (rx_m q.2.2).1
def rx_kml1 : List (Nat × Nat × Nat) := rx_kml.filter (fun q => !Nat.beq q.2.2 0)
set_option maxRecDepth 100000 in
theorem rx_kml_in : ∀ w ∈ rx_kml1.map rx_mlw, w ∈ rx_tb := rx_in_tbl [178, 187, 209, 191, 205, 216, 195, 199, 559, 997, 581, 420, 717, 718, 811, 818, 815, 816, 817, 846, 862, 863, 864, 723, 735, 739, 783, 807, 727, 729, 743, 754, 768, 779, 747, 749, 772, 758, 763, 776, 764, 787, 791, 792, 797, 798, 802, 889, 902, 910, 914, 915, 916, 917, 922, 923, 906, 278, 367, 687, 619, 595, 969, 623, 627, 659, 663, 631, 636, 651, 670, 640, 605, 644, 734, 831, 870, 854, 855, 850, 1050, 1056, 1060, 1081, 1086, 1094, 1098, 1102, 1064, 1065, 1069, 1070, 1075, 1079, 1085, 1090, 1106, 1110, 1114, 1122, 1118, 130, 146, 173, 270, 414, 484, 511, 555, 563, 567, 576, 577, 591, 600, 601, 611, 615, 678, 681, 682, 683, 695, 699, 703, 708, 712, 827, 836, 841, 842, 865, 866, 878, 879, 880, 885, 898, 931, 940, 941, 942, 951, 961, 965, 970, 974, 978, 988, 993, 1002, 1008, 1046, 1130, 1134, 1146, 1157, 1162, 1170, 1178, 1186, 1468, 1414, 1418, 1460, 1464, 1456, 1480, 1452, 1517, 1521, 1476, 1509, 1513, 1525, 1484, 1410, 1421, 1425, 1445, 1441, 1488, 1433, 1437, 1448, 1472, 1406, 1429, 1493, 1501, 1505, 1497, 1402, 1529, 1398, 1386, 1390, 1394, 1549, 1541, 1545, 1569, 1573, 1577, 1601, 1605, 1613, 1618, 1629, 1650, 1646, 1690, 1666, 1670, 1682, 1686, 1658, 1662, 1674, 1678, 1190, 122, 1195, 551, 1557, 572, 1561, 587, 1565, 674, 1581, 691, 1585, 704, 1382, 819, 1533, 823, 1537, 874, 1553, 881, 1589, 890, 1593, 894, 1597, 927, 1609, 936, 1614, 943, 1621, 947, 1625, 957, 1633, 979, 1637, 984, 1642, 998, 1654, 1126, 1694, 1138, 1698, 1142, 1702, 1149, 1706, 1153, 1710, 1166, 1714, 1174, 1718, 1182, 1722, 584] (by decide +kernel)
def rx_oil : List (Nat × Nat) := [(0, 3), (1, 3), (2, 1), (3, 3), (4, 3), (5, 3), (6, 3), (7, 3), (8, 3), (9, 3), (10, 5), (11, 3), (12, 1)]
def rx_acll : List (Nat × Nat) := [(0, 75), (4, 31), (9, 131), (11, 252)]
theorem rx_oil_in : ∀ w ∈ rx_oil.map (fun q => Cond.methodLink (rx_own q.1) q.2 rx_objinit), w ∈ rx_tb := rx_in_tbl [281, 176, 133, 149, 514, 417, 423, 370, 487, 273, 1011, 125, 1198] (by decide +kernel)
theorem rx_acll_in : ∀ w ∈ rx_acll.map (fun q => Cond.methodLink (rx_own q.1) q.2 rx_acopy), w ∈ rx_tb := rx_in_tbl [835, 1161, 667, 935] (by decide +kernel)
/-- a link with number 0 is that of Object.<init> or of System.arraycopy, by its place -/
theorem rx_kml0 : (rx_kml.filter (fun q => Nat.beq q.2.2 0)).all (fun q => decide ((q.1, q.2.1) ∈ rx_oil) || decide ((q.1, q.2.1) ∈ rx_acll)) = true := by decide +kernel
def rx_nlw (q : Nat × Nat × Nat) : Cond := .methodLinkNest (rx_own q.1) q.2.1 (rx_m (q.2.2 % 1000)).1 "CartFloor"
theorem rx_nml_in : ∀ w ∈ rx_nml.map rx_nlw, w ∈ rx_tb := rx_in_tbl [955, 956, 181, 184, 213, 655, 656, 716, 722, 736, 737, 738, 753, 803, 909, 907, 921, 635, 648, 610, 859, 1055, 1074] (by decide +kernel)
def rx_mxw (q : Nat × Nat × Nat) : Cond := .methodLink (rx_own q.1) q.2.1 (bif Nat.beq q.2.2 2001 then Lib.Math.max.name else Lib.Math.min.name)
theorem rx_mml_in : ∀ w ∈ rx_mml.map rx_mxw, w ∈ rx_tb := rx_in_tbl [840, 571, 728, 748, 908, 609, 599, 1080, 167, 170] (by decide +kernel)
theorem rx_mst_in : ∀ w ∈ ([.static Lib.Math.max.name, .static Lib.Math.min.name] : List Cond), w ∈ rx_tb := rx_in_tbl [168, 171] (by decide +kernel)
theorem rx_mxc_in : Cond.code Lib.Math.max.name Lib.Math.max.code 2 (some .int) ∈ rx_tb := rx_in_tb1 169 (by decide +kernel) rfl
theorem rx_mnc_in : Cond.code Lib.Math.min.name Lib.Math.min.code 2 (some .int) ∈ rx_tb := rx_in_tb1 172 (by decide +kernel) rfl
def rx_ncw (q : Nat × Nat × Nat) : Cond := .classLink (rx_own q.1) q.2.1 (rx_own q.2.2)
theorem rx_ncl_in : ∀ w ∈ rx_ncl.map rx_ncw, w ∈ rx_tb := rx_in_tbl [418, 274, 275, 128, 144, 165, 268, 412, 482, 509, 1006, 120, 1193] (by decide +kernel)
def rx_aC (t : Nat) : String := bif Nat.beq t 17 then "CartFloor$Cart" else "CartFloor$Shelf"
def rx_acw (q : Nat × Nat × Nat) : Cond := .classLink (rx_own q.1) q.2.1 (rx_aC q.2.2)
theorem rx_acl_in : ∀ w ∈ rx_acl.map rx_acw, w ∈ rx_tb := rx_in_tbl [150, 274, 275] (by decide +kernel)
theorem rx_icl_in : ∀ w ∈ rx_icl.map (fun q => Cond.constant (rx_own q.1) q.2.1 (Int32.ofNat q.2.2)), w ∈ rx_tb := rx_in_tbl [796, 1068, 1199, 1200, 1492] (by decide +kernel)
theorem rx_jcl_in : ∀ w ∈ rx_jcl.map (fun q => Cond.constantLong (rx_own q.1) q.2.1 (Int64.ofNat q.2.2)), w ∈ rx_tb := rx_in_tbl [177, 762, 806, 733, 1054, 983, 992, 1641, 202, 203, 204] (by decide +kernel)
def rx_codew (j : Nat) : Cond := .code (rx_m j).1 (rx_m j).2.1 (rx_m j).2.2.1 (rx_m j).2.2.2.1
set_option maxRecDepth 100000 in
theorem rx_code_in : ∀ w ∈ (List.range' 1 245).map rx_codew, w ∈ rx_tb := rx_in_tbl [124, 132, 148, 169, 172, 175, 180, 183, 186, 190, 194, 198, 201, 208, 212, 215, 219, 272, 280, 369, 416, 422, 486, 513, 554, 558, 562, 566, 570, 575, 580, 583, 586, 590, 594, 598, 604, 608, 614, 618, 622, 626, 630, 634, 639, 643, 647, 650, 654, 658, 662, 666, 673, 677, 680, 686, 690, 694, 698, 702, 707, 711, 715, 721, 726, 732, 742, 746, 752, 757, 761, 767, 771, 775, 778, 782, 786, 790, 795, 801, 805, 810, 814, 822, 826, 830, 834, 839, 845, 849, 853, 858, 861, 869, 873, 877, 884, 888, 893, 897, 901, 905, 913, 920, 926, 930, 934, 939, 946, 950, 954, 960, 964, 968, 973, 977, 982, 987, 991, 996, 1001, 1005, 1010, 1049, 1053, 1059, 1063, 1067, 1073, 1078, 1084, 1089, 1093, 1097, 1101, 1105, 1109, 1113, 1117, 1121, 1125, 1129, 1133, 1137, 1141, 1145, 1148, 1152, 1156, 1160, 1165, 1169, 1173, 1177, 1181, 1185, 1189, 1192, 1197, 1385, 1389, 1393, 1397, 1401, 1405, 1409, 1413, 1417, 1420, 1424, 1428, 1432, 1436, 1440, 1444, 1447, 1451, 1455, 1459, 1463, 1467, 1471, 1475, 1479, 1483, 1487, 1491, 1496, 1500, 1504, 1508, 1512, 1516, 1520, 1524, 1528, 1532, 1536, 1540, 1544, 1548, 1552, 1556, 1560, 1564, 1568, 1572, 1576, 1580, 1584, 1588, 1592, 1596, 1600, 1604, 1608, 1612, 1617, 1620, 1624, 1628, 1632, 1636, 1640, 1645, 1649, 1653, 1657, 1661, 1665, 1669, 1673, 1677, 1681, 1685, 1689, 1693, 1697, 1701, 1705, 1709, 1713, 1717, 1721, 1725] rfl rfl
def rx_inst : List Nat := [1, 2, 3, 6, 10, 11, 12, 14, 15, 17, 18, 19, 20, 21, 22, 23, 24, 25, 26, 27, 28, 29, 30, 31, 34, 35, 36, 37, 38, 39, 40, 41, 42, 43, 44, 45, 46, 47, 49, 51, 52, 53, 54, 56, 57, 58, 59, 60, 61, 62, 63, 64, 65, 66, 67, 68, 69, 70, 71, 72, 73, 74, 76, 77, 78, 79, 80, 82, 83, 84, 85, 86, 87, 88, 89, 90, 91, 92, 94, 95, 96, 97, 98, 99, 100, 101, 102, 103, 104, 105, 106, 107, 108, 109, 110, 111, 112, 113, 114, 115, 116, 117, 118, 119, 120, 121, 122, 123, 124, 125, 126, 127, 129, 130, 131, 132, 133, 134, 135, 136, 137, 138, 139, 140, 141, 142, 143, 144, 145, 146, 148, 149, 150, 151, 152, 153, 154, 155, 156, 157, 159, 160, 161, 162, 163, 164, 165, 166, 167, 168, 170, 171, 172, 173, 174, 175, 177, 178, 179, 180, 181, 182, 183, 184, 185, 186, 187, 188, 189, 190, 191, 192, 193, 194, 195, 196, 197, 198, 199, 200, 201, 202, 203, 204, 205, 206, 207, 208, 209, 210, 211, 212, 213, 214, 215, 216, 217, 218, 220, 221, 222, 223, 224, 225, 226, 227, 228, 229, 230, 231, 232, 233, 234, 235, 236, 237, 238, 239, 240, 241, 242, 243, 244, 245]
def rx_virt : List Nat := [10, 11, 12, 14, 15, 17, 25, 26, 27, 28, 29, 30, 31, 34, 35, 36, 37, 38, 39, 40, 41, 42, 43, 44, 45, 46, 47, 49, 51, 52, 53, 54, 56, 57, 58, 59, 60, 61, 62, 63, 64, 65, 66, 67, 68, 69, 70, 71, 72, 73, 74, 76, 77, 78, 79, 80, 82, 83, 84, 85, 86, 87, 88, 89, 90, 91, 92, 94, 95, 96, 97, 98, 99, 100, 101, 102, 103, 104, 105, 106, 107, 108, 109, 110, 111, 112, 113, 114, 115, 116, 117, 118, 119, 120, 121, 122, 124, 125, 126, 127, 129, 130, 131, 132, 133, 134, 135, 136, 137, 138, 139, 140, 141, 142, 143, 144, 145, 146, 148, 149, 150, 151, 152, 153, 154, 155, 156, 157, 160, 161, 162, 163, 164, 165, 166, 167, 168, 170, 171, 172, 173, 174, 175, 177, 178, 179, 180, 181, 182, 183, 184, 185, 186, 187, 188, 189, 190, 191, 192, 193, 194, 195, 196, 197, 198, 199, 200, 201, 202, 203, 204, 205, 206, 207, 208, 209, 210, 211, 212, 213, 214, 215, 216, 217, 218, 220, 221, 222, 223, 224, 225, 226, 227, 228, 229, 230, 231, 232, 233, 234, 235, 236, 237, 238, 239, 240, 241, 242, 243, 244, 245]
def rx_stat : List Nat := [4, 5, 7, 8, 9, 13, 16, 32, 33, 48, 50, 55, 75, 81, 93, 128, 147, 158, 169, 176, 219]
set_option maxRecDepth 100000 in
theorem rx_inst_in : ∀ w ∈ rx_inst.map (fun j => Cond.instanceMethod (rx_m j).1), w ∈ rx_tb := rx_in_tbl [123, 131, 147, 174, 189, 193, 196, 207, 211, 218, 271, 279, 368, 415, 421, 485, 512, 552, 556, 560, 564, 568, 573, 578, 588, 592, 596, 602, 606, 612, 616, 620, 624, 629, 632, 638, 641, 645, 652, 661, 665, 671, 675, 684, 688, 692, 696, 701, 705, 709, 713, 719, 725, 730, 741, 745, 751, 756, 760, 766, 770, 774, 781, 785, 788, 794, 800, 809, 813, 820, 824, 828, 832, 837, 843, 847, 851, 856, 867, 871, 875, 882, 886, 891, 895, 899, 904, 912, 919, 925, 928, 932, 937, 944, 948, 952, 958, 962, 966, 971, 975, 980, 985, 990, 994, 999, 1004, 1009, 1047, 1052, 1058, 1062, 1072, 1077, 1083, 1088, 1092, 1096, 1100, 1104, 1108, 1112, 1116, 1120, 1124, 1127, 1131, 1135, 1139, 1143, 1150, 1154, 1158, 1163, 1167, 1171, 1175, 1179, 1183, 1187, 1196, 1383, 1388, 1392, 1396, 1400, 1404, 1408, 1412, 1416, 1423, 1427, 1431, 1435, 1439, 1443, 1450, 1454, 1458, 1462, 1466, 1470, 1474, 1478, 1482, 1486, 1490, 1495, 1499, 1503, 1507, 1511, 1515, 1519, 1523, 1527, 1531, 1534, 1538, 1543, 1547, 1551, 1554, 1558, 1562, 1566, 1571, 1575, 1579, 1582, 1586, 1590, 1594, 1598, 1603, 1607, 1610, 1615, 1622, 1626, 1631, 1634, 1638, 1643, 1648, 1652, 1655, 1660, 1664, 1668, 1672, 1676, 1680, 1684, 1688, 1692, 1695, 1699, 1703, 1707, 1711, 1715, 1719, 1723] (by decide +kernel)
set_option maxRecDepth 100000 in
theorem rx_virt_in : ∀ w ∈ rx_virt.map (fun j => Cond.selects (rx_m j).1.cls (rx_m j).1 (rx_m j).1), w ∈ rx_tb := rx_in_tbl [0, 1, 197, 2, 3, 4, 553, 557, 561, 565, 569, 574, 579, 589, 593, 597, 603, 607, 613, 617, 621, 625, 5, 633, 6, 642, 646, 653, 7, 8, 672, 676, 685, 689, 693, 697, 9, 706, 710, 714, 720, 10, 731, 11, 12, 13, 14, 15, 16, 17, 18, 19, 20, 789, 21, 22, 23, 24, 821, 825, 829, 833, 838, 844, 848, 852, 857, 868, 872, 876, 883, 887, 892, 896, 900, 25, 26, 27, 28, 929, 933, 938, 945, 949, 953, 959, 963, 967, 972, 976, 981, 986, 29, 995, 1000, 30, 1048, 31, 32, 33, 34, 35, 36, 37, 38, 39, 40, 41, 42, 43, 44, 45, 46, 1128, 1132, 1136, 1140, 1144, 1151, 1155, 1159, 1164, 1168, 1172, 1176, 1180, 1184, 1188, 1384, 47, 48, 49, 50, 51, 52, 53, 54, 55, 56, 57, 58, 59, 60, 61, 62, 63, 64, 65, 66, 67, 68, 69, 70, 71, 72, 73, 74, 75, 76, 77, 78, 79, 80, 81, 1535, 1539, 82, 83, 84, 1555, 1559, 1563, 1567, 85, 86, 87, 1583, 1587, 1591, 1595, 1599, 88, 89, 1611, 1616, 1623, 1627, 90, 1635, 1639, 1644, 91, 92, 1656, 93, 94, 95, 96, 97, 98, 99, 100, 101, 1696, 1700, 1704, 1708, 1712, 1716, 1720, 1724] (by decide +kernel)
theorem rx_stat_in : ∀ w ∈ rx_stat.map (fun j => Cond.static (rx_m j).1), w ∈ rx_tb := rx_in_tbl [168, 171, 179, 182, 185, 200, 214, 582, 585, 649, 657, 679, 777, 804, 860, 1066, 1147, 1191, 1419, 1446, 1619] (by decide +kernel)
def rx_inis : List String := ["CartFloor$Cart", "CartFloor$Floor", "CartFloor$Hooks", "CartFloor$Line", "CartFloor$Marks", "CartFloor$Planner", "CartFloor$Search", "CartFloor$Shelf", "CartFloor$Told", "CartFloor$Traffic", "CartFloor$Trio", "CartFloor", "CartFloorModel", "CartFloorLaw", "java/lang/Long", "java/lang/Math", "java/util/Arrays", "java/lang/System"]
theorem rx_inis_in : ∀ w ∈ rx_inis.map Cond.initialized, w ∈ rx_tb := rx_in_tbl [111, 106, 104, 105, 116, 113, 114, 112, 115, 110, 119, 103, 117, 102, 109, 107, 108, 118] (by decide +kernel)
theorem rx_news_in : ∀ w ∈ rx_cls.map (fun q => Cond.instantiable q.1 q.2.2), w ∈ rx_tb := rx_in_tbl [277, 166, 129, 145, 510, 413, 419, 366, 483, 269, 1007, 121, 1194] (by decide +kernel)
theorem rx_arr_in : ∀ w ∈ ([.arrayClass .byte, .arrayClass .int, .arrayClass .long, .arrayClass .boolean, .arrayOver (.object "CartFloor$Cart"), .arrayOver (.object "CartFloor$Shelf")] : List Cond), w ∈ rx_tb := rx_in_tbl [365, 143, 267, 266, 151, 276] (by decide +kernel)
theorem rx_sys_in : ∀ w ∈ ([.instanceMethod rx_objinit, .native rx_acopy, .static rx_acopy] : List Cond), w ∈ rx_tb := rx_in_tbl [126, 669, 668] (by decide +kernel)
theorem rx_oic_in : Cond.code rx_objinit object_method_1_code 1 none ∈ rx_tb := rx_in_tb1 127 rfl rfl
set_option maxRecDepth 100000 in
theorem rx_ms_ok : (List.range' 1 245).all (fun j => (match (rx_m j).2.2.2.2.2.1 with
  | 0 => decide (j ∈ rx_stat)
  | 1 => decide (j ∈ rx_virt) && decide (j ∈ rx_inst)
  | 2 => decide (j ∈ rx_inst) && decide ((rx_m j).1.name = "<init>") && decide ((rx_m j).2.2.2.1 = none)
  | _ => false) && decide ((rx_m j).1.cls = rx_own (rx_m j).2.2.2.2.2.2.1) && decide ((rx_m j).1.cls ∈ rx_inis) && decide ((rx_m j).1.cls ≠ "java/lang/invoke/MethodHandle") && decide ((rx_m j).1.cls ≠ "java/lang/invoke/VarHandle") && decide ((parseMethodDescriptor (rx_m j).1.desc).map (fun d => d.parameters.length) = some (rx_m j).2.2.2.2.1) && (Jvm.plainName (rx_m j).1.cls || decide ((rx_m j).1.cls = "java/lang/Math"))) = true := by decide +kernel
theorem rx_lay0 : ∀ w ∈ u_ws "CartFloor$Cart" rx_T0 15, w ∈ rx_tb := rx_in_tbl [334, 336, 338, 340, 342, 344, 346, 348, 350, 352, 354, 356, 358, 360, 362] (by decide +kernel)
theorem rx_typ0 : ∀ k, k < 15 → parseFieldDescriptor (rx_T0 k).2.2.1 = some ((rx_tys.getD 0 []).getD k .int) := by decide +kernel
theorem rx_nam0 : ∀ a, a < 15 → ∀ b, b < 15 → a ≠ b → (rx_T0 a).2.1 ≠ (rx_T0 b).2.1 := by decide +kernel
theorem rx_lay1 : ∀ w ∈ u_ws "CartFloor$Floor" rx_T1 11, w ∈ rx_tb := rx_in_tbl [243, 245, 247, 249, 251, 253, 255, 257, 259, 261, 263] (by decide +kernel)
theorem rx_typ1 : ∀ k, k < 11 → parseFieldDescriptor (rx_T1 k).2.2.1 = some ((rx_tys.getD 1 []).getD k .int) := by decide +kernel
theorem rx_nam1 : ∀ a, a < 11 → ∀ b, b < 11 → a ≠ b → (rx_T1 a).2.1 ≠ (rx_T1 b).2.1 := by decide +kernel
theorem rx_lay2 : ∀ w ∈ u_ws "CartFloor$Hooks" rx_T2 2, w ∈ rx_tb := rx_in_tbl [138, 140] (by decide +kernel)
theorem rx_typ2 : ∀ k, k < 2 → parseFieldDescriptor (rx_T2 k).2.2.1 = some ((rx_tys.getD 2 []).getD k .int) := by decide +kernel
theorem rx_nam2 : ∀ a, a < 2 → ∀ b, b < 2 → a ≠ b → (rx_T2 a).2.1 ≠ (rx_T2 b).2.1 := by decide +kernel
theorem rx_lay3 : ∀ w ∈ u_ws "CartFloor$Line" rx_T3 3, w ∈ rx_tb := rx_in_tbl [158, 160, 162] (by decide +kernel)
theorem rx_typ3 : ∀ k, k < 3 → parseFieldDescriptor (rx_T3 k).2.2.1 = some ((rx_tys.getD 3 []).getD k .int) := by decide +kernel
theorem rx_nam3 : ∀ a, a < 3 → ∀ b, b < 3 → a ≠ b → (rx_T3 a).2.1 ≠ (rx_T3 b).2.1 := by decide +kernel
theorem rx_lay4 : ∀ w ∈ u_ws "CartFloor$Marks" rx_T4 2, w ∈ rx_tb := rx_in_tbl [518, 520] (by decide +kernel)
theorem rx_typ4 : ∀ k, k < 2 → parseFieldDescriptor (rx_T4 k).2.2.1 = some ((rx_tys.getD 4 []).getD k .int) := by decide +kernel
theorem rx_nam4 : ∀ a, a < 2 → ∀ b, b < 2 → a ≠ b → (rx_T4 a).2.1 ≠ (rx_T4 b).2.1 := by decide +kernel
theorem rx_lay5 : ∀ w ∈ u_ws "CartFloor$Planner" rx_T5 4, w ∈ rx_tb := rx_in_tbl [473, 475, 477, 479] (by decide +kernel)
theorem rx_typ5 : ∀ k, k < 4 → parseFieldDescriptor (rx_T5 k).2.2.1 = some ((rx_tys.getD 5 []).getD k .int) := by decide +kernel
theorem rx_nam5 : ∀ a, a < 4 → ∀ b, b < 4 → a ≠ b → (rx_T5 a).2.1 ≠ (rx_T5 b).2.1 := by decide +kernel
theorem rx_lay6 : ∀ w ∈ u_ws "CartFloor$Search" rx_T6 14, w ∈ rx_tb := rx_in_tbl [439, 441, 443, 445, 447, 449, 451, 453, 455, 457, 459, 461, 463, 465] (by decide +kernel)
theorem rx_typ6 : ∀ k, k < 14 → parseFieldDescriptor (rx_T6 k).2.2.1 = some ((rx_tys.getD 6 []).getD k .int) := by decide +kernel
theorem rx_nam6 : ∀ a, a < 14 → ∀ b, b < 14 → a ≠ b → (rx_T6 a).2.1 ≠ (rx_T6 b).2.1 := by decide +kernel
theorem rx_lay7 : ∀ w ∈ u_ws "CartFloor$Shelf" rx_T7 2, w ∈ rx_tb := rx_in_tbl [376, 378] (by decide +kernel)
theorem rx_typ7 : ∀ k, k < 2 → parseFieldDescriptor (rx_T7 k).2.2.1 = some ((rx_tys.getD 7 []).getD k .int) := by decide +kernel
theorem rx_nam7 : ∀ a, a < 2 → ∀ b, b < 2 → a ≠ b → (rx_T7 a).2.1 ≠ (rx_T7 b).2.1 := by decide +kernel
theorem rx_lay8 : ∀ w ∈ u_ws "CartFloor$Told" rx_T8 6, w ∈ rx_tb := rx_in_tbl [496, 498, 500, 502, 504, 506] (by decide +kernel)
theorem rx_typ8 : ∀ k, k < 6 → parseFieldDescriptor (rx_T8 k).2.2.1 = some ((rx_tys.getD 8 []).getD k .int) := by decide +kernel
theorem rx_nam8 : ∀ a, a < 6 → ∀ b, b < 6 → a ≠ b → (rx_T8 a).2.1 ≠ (rx_T8 b).2.1 := by decide +kernel
theorem rx_lay9 : ∀ w ∈ u_ws "CartFloor$Traffic" rx_T9 6, w ∈ rx_tb := rx_in_tbl [399, 401, 403, 405, 407, 409] (by decide +kernel)
theorem rx_typ9 : ∀ k, k < 6 → parseFieldDescriptor (rx_T9 k).2.2.1 = some ((rx_tys.getD 9 []).getD k .int) := by decide +kernel
theorem rx_nam9 : ∀ a, a < 6 → ∀ b, b < 6 → a ≠ b → (rx_T9 a).2.1 ≠ (rx_T9 b).2.1 := by decide +kernel
theorem rx_lay10 : ∀ w ∈ u_ws "CartFloor$Trio" rx_T10 11, w ∈ rx_tb := rx_in_tbl [1023, 1025, 1027, 1029, 1031, 1033, 1035, 1037, 1039, 1041, 1043] (by decide +kernel)
theorem rx_typ10 : ∀ k, k < 11 → parseFieldDescriptor (rx_T10 k).2.2.1 = some ((rx_tys.getD 10 []).getD k .int) := by decide +kernel
theorem rx_nam10 : ∀ a, a < 11 → ∀ b, b < 11 → a ≠ b → (rx_T10 a).2.1 ≠ (rx_T10 b).2.1 := by decide +kernel
theorem rx_lay11 : ∀ w ∈ u_ws "CartFloor" rx_T11 9, w ∈ rx_tb := rx_in_tbl [532, 534, 536, 538, 540, 542, 544, 546, 548] (by decide +kernel)
theorem rx_typ11 : ∀ k, k < 9 → parseFieldDescriptor (rx_T11 k).2.2.1 = some ((rx_tys.getD 11 []).getD k .int) := by decide +kernel
theorem rx_nam11 : ∀ a, a < 9 → ∀ b, b < 9 → a ≠ b → (rx_T11 a).2.1 ≠ (rx_T11 b).2.1 := by decide +kernel
theorem rx_lay12 : ∀ w ∈ u_ws "CartFloorModel" rx_T12 60, w ∈ rx_tb := rx_in_tbl [1261, 1263, 1265, 1267, 1269, 1271, 1273, 1275, 1277, 1279, 1281, 1283, 1285, 1287, 1289, 1291, 1293, 1295, 1297, 1299, 1301, 1303, 1305, 1307, 1309, 1311, 1313, 1315, 1317, 1319, 1321, 1323, 1325, 1327, 1329, 1331, 1333, 1335, 1337, 1339, 1341, 1343, 1345, 1347, 1349, 1351, 1353, 1355, 1357, 1359, 1361, 1363, 1365, 1367, 1369, 1371, 1373, 1375, 1377, 1379] (by decide +kernel)
theorem rx_typ12 : ∀ k, k < 60 → parseFieldDescriptor (rx_T12 k).2.2.1 = some ((rx_tys.getD 12 []).getD k .int) := by decide +kernel
theorem rx_nam12 : ∀ a, a < 60 → ∀ b, b < 60 → a ≠ b → (rx_T12 a).2.1 ≠ (rx_T12 b).2.1 := by decide +kernel
/-- what is known of each class -/
theorem rx_cls_ok {ci : Nat} {C : String} {T : u_T} {N : Nat} (h : rx_cls[ci]? = some (C, T, N)) : (∀ w ∈ u_ws C T N, w ∈ rx_tb) ∧ (∀ k, k < N → parseFieldDescriptor (T k).2.2.1 = some ((rx_tys.getD ci []).getD k .int)) ∧ (∀ a, a < N → ∀ b, b < N → a ≠ b → (T a).2.1 ≠ (T b).2.1) ∧ (rx_tys.getD ci []).length = N ∧ ci < 13 := by
  match ci, h with
  | 0, h => cases h; exact ⟨rx_lay0, rx_typ0, rx_nam0, rfl, by decide⟩
  | 1, h => cases h; exact ⟨rx_lay1, rx_typ1, rx_nam1, rfl, by decide⟩
  | 2, h => cases h; exact ⟨rx_lay2, rx_typ2, rx_nam2, rfl, by decide⟩
  | 3, h => cases h; exact ⟨rx_lay3, rx_typ3, rx_nam3, rfl, by decide⟩
  | 4, h => cases h; exact ⟨rx_lay4, rx_typ4, rx_nam4, rfl, by decide⟩
  | 5, h => cases h; exact ⟨rx_lay5, rx_typ5, rx_nam5, rfl, by decide⟩
  | 6, h => cases h; exact ⟨rx_lay6, rx_typ6, rx_nam6, rfl, by decide⟩
  | 7, h => cases h; exact ⟨rx_lay7, rx_typ7, rx_nam7, rfl, by decide⟩
  | 8, h => cases h; exact ⟨rx_lay8, rx_typ8, rx_nam8, rfl, by decide⟩
  | 9, h => cases h; exact ⟨rx_lay9, rx_typ9, rx_nam9, rfl, by decide⟩
  | 10, h => cases h; exact ⟨rx_lay10, rx_typ10, rx_nam10, rfl, by decide⟩
  | 11, h => cases h; exact ⟨rx_lay11, rx_typ11, rx_nam11, rfl, by decide⟩
  | 12, h => cases h; exact ⟨rx_lay12, rx_typ12, rx_nam12, rfl, by decide⟩
  | n + 13, h => exact absurd h (by simp [rx_cls])
set_option maxRecDepth 100000 in
theorem rx_fin_ok : (List.range 246).all (fun j => (rx_cs.getD j []).all (fun q => match q.2 with
  | .putfield e => (match rx_cls[e / 64]? with
    | some (_, T, _) => !(T (e % 64)).2.2.2 || (Nat.beq (rx_m j).2.2.2.2.2.1 2 && Nat.beq (rx_m j).2.2.2.2.2.2.1 (e / 64))
    | none => false)
  | _ => true)) = true := by decide +kernel
set_option maxRecDepth 100000 in
theorem rx_sys_ok : (List.range 246).all (fun j => (rx_cs.getD j []).all (fun q => match q.2 with
  | .newarray a => decide (rx_atag a = 13 ∨ rx_atag a = 14 ∨ rx_atag a = 15 ∨ rx_atag a = 16)
  | .new c => decide (c < 13)
  | .anewarray t => decide (t = 17 ∨ t = 18)
  | _ => true)) = true := by decide +kernel
