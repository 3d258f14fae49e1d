/-! ===== the tables, checked (wip/whole/gen_chk.py) ===== -/
def qch (k : Nat) : Bool := qscan (qcc k) (qtab k).flatten 0 (qcc k).data.toList && (qtab k).all (fun l => l.all (fun e => qiok k e.1 e.2.1 e.2.2.1 e.2.2.2))
theorem qch_use {k : Nat} (h : qch k = true) {pc nx tg : Nat} {ins : Jvm.ClassFile.Instr} (h1 : qcd k pc = some (ins, nx, tg)) : decode (qcc k) pc = .ok (ins, nx - pc) ∧ qiok k pc ins nx tg = true := by
  unfold qcd at h1
  cases h2 : (qtab k)[pc / 32]? with
  | none => rw [h2] at h1; cases h1
  | some l =>
    rw [h2] at h1
    unfold qch at h
    rw [Bool.and_eq_true] at h
    have h3 := qfd_mem _ _ _ h1
    have h4 := List.mem_of_getElem? h2
    exact ⟨qscan_ok _ 0 _ rfl h.1 _ (List.mem_flatten.mpr ⟨l, h4, h3⟩), List.all_eq_true.mp (List.all_eq_true.mp h.2 l h4) _ h3⟩
theorem qrg {P : Nat → Prop} {a n k : Nat} (h : ∀ x ∈ List.range' a n, P x) (h1 : a ≤ k) (h2 : k < a + n) : P k := h k (List.mem_range'_1.mpr ⟨h1, h2⟩)
theorem qps {ws : List Cond} (ps : List Nat) (h : ws = ps.filterMap (fun i => lw_tbl[i]?)) : ∀ w ∈ ws, w ∈ lw_tbl := fun w hw => by
  rw [h] at hw
  obtain ⟨i, -, hi⟩ := List.mem_filterMap.mp hw
  exact List.mem_of_getElem? hi
theorem qinW {w : Cond} (h : w ∈ lw_tbl) (hg : goodWord w = true) : w ∈ qW := List.mem_filter.mpr ⟨h, hg⟩
theorem qch_g0 : (List.range' 0 50).all qch = true := by decide +kernel
theorem qch_g1 : (List.range' 50 50).all qch = true := by decide +kernel
theorem qch_g2 : (List.range' 100 50).all qch = true := by decide +kernel
theorem qch_g3 : (List.range' 150 30).all qch = true := by decide +kernel
theorem qch_g4 : (List.range' 180 30).all qch = true := by decide +kernel
theorem qch_g5 : (List.range' 210 40).all qch = true := by decide +kernel
theorem qch_g6 : (List.range' 250 40).all qch = true := by decide +kernel
theorem qch_g7 : (List.range' 290 58).all qch = true := by decide +kernel
theorem qch_g8 : (List.range' 348 1).all qch = true := by decide +kernel
theorem qch_all {k : Nat} (h : k < 349) : qch k = true := by
  rcases (by omega : (0 ≤ k ∧ k < 50) ∨ (50 ≤ k ∧ k < 100) ∨ (100 ≤ k ∧ k < 150) ∨ (150 ≤ k ∧ k < 180) ∨ (180 ≤ k ∧ k < 210) ∨ (210 ≤ k ∧ k < 250) ∨ (250 ≤ k ∧ k < 290) ∨ (290 ≤ k ∧ k < 348) ∨ (348 ≤ k ∧ k < 349)) with ⟨h1, h2⟩ | ⟨h1, h2⟩ | ⟨h1, h2⟩ | ⟨h1, h2⟩ | ⟨h1, h2⟩ | ⟨h1, h2⟩ | ⟨h1, h2⟩ | ⟨h1, h2⟩ | ⟨h1, h2⟩
  · exact qrg (List.all_eq_true.mp qch_g0) h1 h2
  · exact qrg (List.all_eq_true.mp qch_g1) h1 h2
  · exact qrg (List.all_eq_true.mp qch_g2) h1 h2
  · exact qrg (List.all_eq_true.mp qch_g3) h1 h2
  · exact qrg (List.all_eq_true.mp qch_g4) h1 h2
  · exact qrg (List.all_eq_true.mp qch_g5) h1 h2
  · exact qrg (List.all_eq_true.mp qch_g6) h1 h2
  · exact qrg (List.all_eq_true.mp qch_g7) h1 h2
  · exact qrg (List.all_eq_true.mp qch_g8) h1 h2
set_option maxRecDepth 100000
theorem qmw_g0 : (List.range' 0 20).flatMap qmw = [301, 118, 300, 1023, 118, 1021, 1022, 1028, 118, 1027, 32, 595, 118, 593, 594, 659, 118, 657, 658, 368, 120, 367, 537, 120, 535, 536, 541, 120, 539, 540, 545, 120, 544, 5, 560, 120, 558, 559, 568, 120, 567, 6, 1224, 120, 1222, 1223, 1228, 120, 1227, 37, 1364, 120, 1362, 1363, 1368, 120, 1367, 43, 193, 116, 192, 805, 116, 804, 14, 801, 116, 799, 800, 817, 116, 816, 15, 835, 116, 834].filterMap (fun i => lw_tbl[i]?) := rfl
theorem qmw_g1 : (List.range' 20 20).flatMap qmw = [900, 116, 899, 17, 904, 116, 903, 18, 916, 116, 915, 19, 924, 116, 923, 21, 920, 116, 919, 20, 928, 116, 927, 22, 932, 116, 931, 23, 936, 116, 935, 24, 940, 116, 939, 25, 948, 116, 947, 26, 957, 116, 956, 27, 962, 116, 961, 28, 952, 116, 950, 951, 1109, 116, 1107, 1108, 555, 116, 553, 554, 564, 116, 562, 563, 285, 117, 284, 425, 117, 423, 424, 431, 117, 430, 1, 978, 117, 976, 977].filterMap (fun i => lw_tbl[i]?) := rfl
theorem qmw_g2 : (List.range' 40 20).flatMap qmw = [982, 117, 981, 29, 986, 117, 985, 30, 990, 117, 989, 31, 999, 117, 998, 632, 117, 630, 631, 635, 117, 634, 643, 117, 642, 624, 117, 622, 623, 411, 121, 410, 1411, 121, 1410, 47, 1406, 121, 1404, 1405, 321, 119, 320, 435, 119, 433, 434, 446, 119, 444, 445, 525, 119, 523, 524, 521, 119, 519, 520, 1077, 119, 1075, 1076, 1081, 119, 1079, 1080, 618, 119, 616, 617, 614, 119, 612, 613].filterMap (fun i => lw_tbl[i]?) := rfl
theorem qmw_g3 : (List.range' 60 20).flatMap qmw = [688, 119, 686, 687, 1042, 119, 1040, 1041, 628, 119, 626, 627, 640, 119, 638, 639, 655, 119, 653, 654, 610, 119, 608, 609, 606, 119, 604, 605, 1136, 119, 1134, 1135, 602, 119, 600, 601, 651, 119, 650, 9, 146, 115, 145, 509, 115, 507, 508, 796, 115, 794, 795, 828, 115, 826, 827, 832, 115, 831, 16, 813, 115, 811, 812, 809, 115, 807, 808, 944, 115, 942, 943, 966, 115, 964, 965, 908, 115, 906, 907].filterMap (fun i => lw_tbl[i]?) := rfl
theorem qmw_g4 : (List.range' 80 20).flatMap qmw = [821, 115, 819, 820, 840, 115, 838, 839, 911, 115, 910, 824, 115, 823, 138, 114, 137, 505, 114, 503, 504, 726, 114, 724, 725, 974, 114, 972, 973, 1019, 114, 1017, 1018, 513, 114, 511, 512, 1038, 114, 1036, 1037, 1050, 114, 1048, 1049, 1088, 114, 1086, 1087, 1100, 114, 1098, 1099, 1116, 114, 1114, 1115, 1124, 114, 1122, 1123, 1132, 114, 1130, 1131, 1144, 114, 1142, 1143, 1152, 114, 1150, 1151, 1159, 114, 1157, 1158].filterMap (fun i => lw_tbl[i]?) := rfl
theorem qmw_g5 : (List.range' 100 20).flatMap qmw = [1166, 114, 1164, 1165, 1173, 114, 1171, 1172, 1180, 114, 1178, 1179, 1187, 114, 1185, 1186, 1195, 114, 1193, 1194, 1202, 114, 1200, 1201, 1212, 114, 1210, 1211, 1220, 114, 1218, 1219, 1235, 114, 1233, 1234, 517, 114, 515, 516, 1246, 114, 1244, 1245, 576, 114, 574, 575, 1353, 114, 1351, 1352, 1360, 114, 1358, 1359, 1391, 114, 1389, 1390, 1253, 114, 1251, 1252, 1264, 114, 1262, 1263, 587, 114, 585, 586, 1271, 114, 1269, 1270, 665, 114, 663, 664].filterMap (fun i => lw_tbl[i]?) := rfl
theorem qmw_g6 : (List.range' 120 20).flatMap qmw = [1278, 114, 1276, 1277, 1285, 114, 1283, 1284, 1292, 114, 1290, 1291, 1307, 114, 1305, 1306, 1314, 114, 1312, 1313, 1325, 114, 1323, 1324, 684, 114, 682, 683, 692, 114, 690, 691, 1332, 114, 1330, 1331, 696, 114, 694, 695, 1339, 114, 1337, 1338, 1346, 114, 1344, 1345, 1376, 114, 1374, 1375, 702, 114, 700, 701, 1398, 114, 1396, 1397, 1419, 114, 1417, 1418, 706, 114, 704, 705, 710, 114, 708, 709, 714, 114, 712, 713, 718, 114, 716, 717].filterMap (fun i => lw_tbl[i]?) := rfl
theorem qmw_g7 : (List.range' 140 20).flatMap qmw = [730, 114, 729, 12, 1054, 114, 1053, 33, 1092, 114, 1091, 35, 1104, 114, 1103, 36, 1058, 114, 1057, 34, 438, 114, 437, 421, 114, 420, 0, 442, 114, 441, 2, 533, 114, 532, 4, 529, 114, 528, 3, 582, 114, 581, 7, 1239, 114, 1238, 38, 1257, 114, 1256, 39, 591, 114, 590, 8, 669, 114, 668, 10, 673, 114, 672, 11, 676, 114, 675, 679, 114, 678, 1296, 114, 1295, 40, 1300, 114, 1299, 41].filterMap (fun i => lw_tbl[i]?) := rfl
theorem qmw_g8 : (List.range' 160 20).flatMap qmw = [1318, 114, 1317, 42, 1380, 114, 1379, 44, 1384, 114, 1383, 45, 1402, 114, 1401, 46, 1424, 122, 1423, 1430, 122, 1429, 48, 1623, 122, 1621, 1622, 1635, 122, 1634, 51, 1440, 122, 1439, 1726, 122, 1725, 1809, 122, 1808, 1443, 122, 1442, 1715, 122, 1714, 1627, 122, 1625, 1626, 1647, 122, 1646, 54, 1643, 122, 1642, 53, 1676, 122, 1675, 59, 1691, 122, 1690, 1666, 122, 1665, 1688, 122, 1687, 62].filterMap (fun i => lw_tbl[i]?) := rfl
theorem qmw_g9 : (List.range' 180 20).flatMap qmw = [1696, 122, 1695, 63, 1663, 122, 1662, 58, 1672, 122, 1671, 1659, 122, 1658, 57, 1680, 122, 1679, 60, 1766, 122, 1765, 78, 1730, 122, 1729, 70, 1770, 122, 1769, 79, 1639, 122, 1638, 52, 1734, 122, 1733, 71, 1655, 122, 1654, 56, 1712, 122, 1711, 67, 1704, 122, 1703, 65, 1651, 122, 1650, 55, 1684, 122, 1683, 61, 1723, 122, 1722, 69, 1708, 122, 1707, 66, 1719, 122, 1718, 68, 1700, 122, 1699, 64, 1631, 122, 1629, 1630].filterMap (fun i => lw_tbl[i]?) := rfl
theorem qmw_g10 : (List.range' 200 20).flatMap qmw = [1437, 122, 1436, 1446, 122, 1445, 1434, 122, 1433, 49, 1450, 122, 1449, 50, 1758, 122, 1757, 76, 1754, 122, 1753, 75, 1742, 122, 1741, 72, 1746, 122, 1745, 73, 1762, 122, 1761, 77, 1750, 122, 1749, 74, 1738, 122, 1736, 1737, 1852, 122, 1851, 1849, 122, 1848, 91, 1774, 122, 1772, 1773, 1778, 122, 1776, 1777, 1802, 122, 1801, 83, 1817, 122, 1816, 85, 1829, 122, 1828, 87, 1790, 122, 1789, 81, 1786, 122, 1785, 80].filterMap (fun i => lw_tbl[i]?) := rfl
theorem qmw_g11 : (List.range' 220 20).flatMap qmw = [1794, 122, 1793, 82, 1782, 122, 1780, 1781, 1806, 122, 1805, 84, 1798, 122, 1796, 1797, 1821, 122, 1820, 86, 1813, 122, 1811, 1812, 1825, 122, 1823, 1824, 1833, 122, 1832, 88, 1845, 122, 1844, 90, 1841, 122, 1840, 89, 1837, 122, 1835, 1836, 1864, 122, 1863, 93, 1860, 122, 1859, 92, 1856, 122, 1854, 1855, 1868, 122, 1866, 1867, 1885, 122, 1884, 96, 1889, 122, 1888, 97, 1881, 122, 1880, 95, 1876, 122, 1875, 94, 1872, 122, 1870, 1871].filterMap (fun i => lw_tbl[i]?) := rfl
theorem qmw_g12 : (List.range' 240 20).flatMap qmw = [1893, 122, 1891, 1892, 1897, 122, 1895, 1896, 1901, 122, 1899, 1900, 1905, 122, 1903, 1904, 1909, 122, 1907, 1908, 1913, 122, 1911, 1912, 1938, 122, 1936, 1937, 1942, 122, 1940, 1941, 1946, 122, 1944, 1945, 1950, 122, 1948, 1949, 1954, 122, 1952, 1953, 1921, 122, 1920, 99, 1933, 122, 1932, 102, 1929, 122, 1928, 101, 1925, 122, 1924, 100, 1962, 122, 1961, 103, 1917, 122, 1916, 98, 1958, 122, 1956, 1957, 1966, 122, 1964, 1965, 1970, 122, 1968, 1969].filterMap (fun i => lw_tbl[i]?) := rfl
theorem qmw_g13 : (List.range' 260 20).flatMap qmw = [1974, 122, 1972, 1973, 1978, 122, 1976, 1977, 1982, 122, 1980, 1981, 1986, 122, 1984, 1985, 1994, 122, 1993, 104, 1990, 122, 1988, 1989, 1998, 122, 1996, 1997, 2006, 122, 2005, 105, 2002, 122, 2000, 2001, 2010, 122, 2008, 2009, 2018, 122, 2017, 106, 2014, 122, 2012, 2013, 2022, 122, 2020, 2021, 2034, 122, 2033, 108, 2030, 122, 2029, 107, 2026, 122, 2024, 2025, 2038, 122, 2036, 2037, 2042, 122, 2040, 2041, 2046, 122, 2044, 2045, 2058, 122, 2057, 110].filterMap (fun i => lw_tbl[i]?) := rfl
theorem qmw_g14 : (List.range' 280 20).flatMap qmw = [2054, 122, 2053, 109, 2050, 122, 2048, 2049, 2062, 122, 2060, 2061, 2070, 122, 2069, 111, 2066, 122, 2064, 2065, 2074, 122, 2072, 2073, 2078, 122, 2076, 2077, 2082, 122, 2080, 2081, 2086, 122, 2084, 2085, 2090, 122, 2088, 2089, 2098, 122, 2097, 112, 2094, 122, 2092, 2093, 2102, 122, 2100, 2101, 2106, 122, 2104, 2105, 2110, 122, 2108, 2109, 2114, 122, 2112, 2113, 2118, 122, 2116, 2117, 548, 132, 547, 598, 127, 597, 646, 127, 645].filterMap (fun i => lw_tbl[i]?) := rfl
theorem qmw_g15 : (List.range' 300 20).flatMap qmw = [844, 128, 842, 843, 854, 128, 852, 853, 848, 128, 846, 847, 858, 128, 856, 857, 864, 128, 863, 861, 129, 860, 869, 130, 868, 721, 113, 720, 970, 113, 969, 1015, 113, 1014, 1034, 113, 1033, 1045, 113, 1044, 1084, 113, 1083, 1096, 113, 1095, 1112, 113, 1111, 1120, 113, 1119, 1128, 113, 1127, 1140, 113, 1139, 1148, 113, 1147, 1155, 113, 1154].filterMap (fun i => lw_tbl[i]?) := rfl
theorem qmw_g16 : (List.range' 320 20).flatMap qmw = [1162, 113, 1161, 1169, 113, 1168, 1176, 113, 1175, 1183, 113, 1182, 1191, 113, 1190, 1198, 113, 1197, 1208, 113, 1207, 1216, 113, 1215, 1231, 113, 1230, 1242, 113, 1241, 1249, 113, 1248, 1260, 113, 1259, 1267, 113, 1266, 1274, 113, 1273, 1281, 113, 1280, 1288, 113, 1287, 1303, 113, 1302, 1310, 113, 1309, 1321, 113, 1320, 1328, 113, 1327].filterMap (fun i => lw_tbl[i]?) := rfl
theorem qmw_g17 : (List.range' 340 8).flatMap qmw = [1335, 113, 1334, 1342, 113, 1341, 1349, 113, 1348, 1356, 113, 1355, 1372, 113, 1371, 1387, 113, 1386, 1394, 113, 1393, 1415, 113, 1414].filterMap (fun i => lw_tbl[i]?) := rfl
theorem qmw_good : ((List.range' 0 348).flatMap qmw).all goodWord = true := by decide +kernel
theorem qmw_all {k : Nat} (h : k < 348) : ∀ w ∈ qmw k, w ∈ qW := fun w hw => by
  have hg := List.all_eq_true.mp qmw_good w (List.mem_flatMap.mpr ⟨k, List.mem_range'_1.mpr ⟨Nat.zero_le _, by omega⟩, hw⟩)
  refine qinW ?_ hg
  rcases (by omega : (0 ≤ k ∧ k < 20) ∨ (20 ≤ k ∧ k < 40) ∨ (40 ≤ k ∧ k < 60) ∨ (60 ≤ k ∧ k < 80) ∨ (80 ≤ k ∧ k < 100) ∨ (100 ≤ k ∧ k < 120) ∨ (120 ≤ k ∧ k < 140) ∨ (140 ≤ k ∧ k < 160) ∨ (160 ≤ k ∧ k < 180) ∨ (180 ≤ k ∧ k < 200) ∨ (200 ≤ k ∧ k < 220) ∨ (220 ≤ k ∧ k < 240) ∨ (240 ≤ k ∧ k < 260) ∨ (260 ≤ k ∧ k < 280) ∨ (280 ≤ k ∧ k < 300) ∨ (300 ≤ k ∧ k < 320) ∨ (320 ≤ k ∧ k < 340) ∨ (340 ≤ k ∧ k < 348)) with ⟨h1, h2⟩ | ⟨h1, h2⟩ | ⟨h1, h2⟩ | ⟨h1, h2⟩ | ⟨h1, h2⟩ | ⟨h1, h2⟩ | ⟨h1, h2⟩ | ⟨h1, h2⟩ | ⟨h1, h2⟩ | ⟨h1, h2⟩ | ⟨h1, h2⟩ | ⟨h1, h2⟩ | ⟨h1, h2⟩ | ⟨h1, h2⟩ | ⟨h1, h2⟩ | ⟨h1, h2⟩ | ⟨h1, h2⟩ | ⟨h1, h2⟩
  · exact qps _ qmw_g0 w (List.mem_flatMap.mpr ⟨k, List.mem_range'_1.mpr ⟨h1, h2⟩, hw⟩)
  · exact qps _ qmw_g1 w (List.mem_flatMap.mpr ⟨k, List.mem_range'_1.mpr ⟨h1, h2⟩, hw⟩)
  · exact qps _ qmw_g2 w (List.mem_flatMap.mpr ⟨k, List.mem_range'_1.mpr ⟨h1, h2⟩, hw⟩)
  · exact qps _ qmw_g3 w (List.mem_flatMap.mpr ⟨k, List.mem_range'_1.mpr ⟨h1, h2⟩, hw⟩)
  · exact qps _ qmw_g4 w (List.mem_flatMap.mpr ⟨k, List.mem_range'_1.mpr ⟨h1, h2⟩, hw⟩)
  · exact qps _ qmw_g5 w (List.mem_flatMap.mpr ⟨k, List.mem_range'_1.mpr ⟨h1, h2⟩, hw⟩)
  · exact qps _ qmw_g6 w (List.mem_flatMap.mpr ⟨k, List.mem_range'_1.mpr ⟨h1, h2⟩, hw⟩)
  · exact qps _ qmw_g7 w (List.mem_flatMap.mpr ⟨k, List.mem_range'_1.mpr ⟨h1, h2⟩, hw⟩)
  · exact qps _ qmw_g8 w (List.mem_flatMap.mpr ⟨k, List.mem_range'_1.mpr ⟨h1, h2⟩, hw⟩)
  · exact qps _ qmw_g9 w (List.mem_flatMap.mpr ⟨k, List.mem_range'_1.mpr ⟨h1, h2⟩, hw⟩)
  · exact qps _ qmw_g10 w (List.mem_flatMap.mpr ⟨k, List.mem_range'_1.mpr ⟨h1, h2⟩, hw⟩)
  · exact qps _ qmw_g11 w (List.mem_flatMap.mpr ⟨k, List.mem_range'_1.mpr ⟨h1, h2⟩, hw⟩)
  · exact qps _ qmw_g12 w (List.mem_flatMap.mpr ⟨k, List.mem_range'_1.mpr ⟨h1, h2⟩, hw⟩)
  · exact qps _ qmw_g13 w (List.mem_flatMap.mpr ⟨k, List.mem_range'_1.mpr ⟨h1, h2⟩, hw⟩)
  · exact qps _ qmw_g14 w (List.mem_flatMap.mpr ⟨k, List.mem_range'_1.mpr ⟨h1, h2⟩, hw⟩)
  · exact qps _ qmw_g15 w (List.mem_flatMap.mpr ⟨k, List.mem_range'_1.mpr ⟨h1, h2⟩, hw⟩)
  · exact qps _ qmw_g16 w (List.mem_flatMap.mpr ⟨k, List.mem_range'_1.mpr ⟨h1, h2⟩, hw⟩)
  · exact qps _ qmw_g17 w (List.mem_flatMap.mpr ⟨k, List.mem_range'_1.mpr ⟨h1, h2⟩, hw⟩)
theorem qcw_0 : (qcpl 0).flatMap (qcpW 0) = ([302, 305, 306, 307, 303, 1024, 1025, 1029, 1030, 1031, 596] : List Nat).filterMap (fun i => lw_tbl[i]?) := rfl
theorem qcw_1 : (qcpl 1).flatMap (qcpW 1) = ([369, 373, 374, 375, 376, 377, 378, 370, 371, 372, 542, 546, 552, 561, 565, 569, 571, 1225, 379, 381, 1365] : List Nat).filterMap (fun i => lw_tbl[i]?) := rfl
theorem qcw_2 : (qcpl 2).flatMap (qcpW 2) = ([194, 203, 206, 210, 213, 215, 218, 195, 220, 226, 229, 233, 237, 240, 242, 244, 197, 222, 235, 802, 806, 814, 818, 833, 896, 897, 901, 913, 917, 929, 933, 937, 954, 959, 963, 837, 905, 921, 925, 941, 945, 949, 958] : List Nat).filterMap (fun i => lw_tbl[i]?) := rfl
theorem qcw_3 : (qcpl 3).flatMap (qcpW 3) = ([286, 287, 289, 288, 426, 428, 979, 1012, 994, 983, 993, 995, 987, 991, 992, 996, 997, 1001, 633, 641, 636, 637, 644, 647, 625, 629] : List Nat).filterMap (fun i => lw_tbl[i]?) := rfl
theorem qcw_4 : (qcpl 4).flatMap (qcpW 4) = ([412, 413, 1412, 1407, 1408] : List Nat).filterMap (fun i => lw_tbl[i]?) := rfl
theorem qcw_5 : (qcpl 5).flatMap (qcpW 5) = ([322, 329, 332, 336, 323, 338, 340, 344, 324, 328, 522, 620, 615, 619, 611, 607, 1137, 603, 621, 648, 652] : List Nat).filterMap (fun i => lw_tbl[i]?) := rfl
theorem qcw_6 : (qcpl 6).flatMap (qcpW 6) = ([147, 148, 157, 150, 797, 151, 152, 159, 155, 810, 909, 825, 166, 168, 829, 912, 822, 841, 851] : List Nat).filterMap (fun i => lw_tbl[i]?) := rfl
theorem qcw_7 : (qcpl 7).flatMap (qcpW 7) = ([139, 142, 447, 189, 448, 449, 281, 450, 451, 297, 452, 453, 317, 454, 455, 457, 458, 364, 460, 461, 407, 462, 418, 506, 727, 793, 798, 975, 439, 1020, 518, 583, 1039, 1051, 1074, 1078, 1089, 697, 1093, 1101, 1105, 1106, 1117, 1125, 1133, 456, 1145, 443, 661, 530, 578, 1188, 1203, 1204, 1205, 1213, 1221, 1236, 526, 577, 579, 534, 538, 557, 1361, 1254, 432, 588, 666, 680, 1293, 1297, 1315, 685, 698, 1377, 1381, 1399, 459, 463, 464, 731, 1055, 1059, 422, 592, 599, 656, 670, 674, 677, 1403] : List Nat).filterMap (fun i => lw_tbl[i]?) := rfl
theorem qcw_8 : (qcpl 8).flatMap (qcpW 8) = ([1425, 1454, 1460, 1461, 1462, 1463, 1464, 1465, 1466, 1467, 1468, 1469, 1426, 1470, 1471, 1472, 1473, 1474, 1475, 1476, 1477, 1480, 1481, 1482, 1483, 1484, 1485, 1486, 1487, 1488, 1489, 1490, 1491, 1497, 1498, 1499, 1500, 1501, 1505, 1506, 1427, 1431, 1451, 1452, 1453, 1455, 1644, 1456, 1457, 1640, 1689, 1673, 1692, 1438, 1664, 1667, 1668, 1669, 1660, 1670, 1656, 1677, 1458, 1459, 1685, 1652, 1681, 1697, 1705, 1716, 1709, 1720, 1724, 1727, 1693, 1701, 1441, 1713, 1632, 1636, 1648, 1731, 1435, 1444, 1478, 1492, 1494, 1447, 1493, 1479, 1743, 1767, 1755, 1747, 1763, 1751, 1739, 1759, 1807, 1850, 1787, 1783, 1791, 1799, 1803, 1814, 1818, 1826, 1830, 1842, 1846, 1838, 1861, 1857, 1882, 1496, 1495, 1877, 1878, 1886, 1873, 1914, 1502, 1503, 1504, 1930, 1926, 1934, 1918, 1922, 1959, 1991, 2003, 2015, 2031, 2027, 2055, 2051, 2067, 2095] : List Nat).filterMap (fun i => lw_tbl[i]?) := rfl
theorem qcw_9 : (qcpl 9).flatMap (qcpW 9) = ([2134, 2135, 849, 845, 855, 859, 865, 867] : List Nat).filterMap (fun i => lw_tbl[i]?) := rfl
theorem qcw_10 : (qcpl 10).flatMap (qcpW 10) = ([862] : List Nat).filterMap (fun i => lw_tbl[i]?) := rfl
theorem qcw_11 : (qcpl 11).flatMap (qcpW 11) = ([] : List Nat).filterMap (fun i => lw_tbl[i]?) := rfl
theorem qcw_12 : (qcpl 12).flatMap (qcpW 12) = ([549, 550, 551] : List Nat).filterMap (fun i => lw_tbl[i]?) := rfl
theorem qcw_13 : (qcpl 13).flatMap (qcpW 13) = ([] : List Nat).filterMap (fun i => lw_tbl[i]?) := rfl
theorem qcw_14 : (qcpl 14).flatMap (qcpW 14) = ([723, 134, 722, 971, 1016, 1035, 1047, 1046, 1085, 1097, 1113, 1121, 1129, 1141, 1149, 1156, 1163, 1170, 1177, 1184, 1192, 1199, 1209, 1217, 1232, 1243, 1250, 1261, 1268, 1275, 1282, 1289, 1304, 1311, 1322, 1329, 1336, 1343, 1350, 1357, 1373, 1388, 1395, 1416, 136, 1420, 1422, 502, 1624, 719, 1628, 1620, 968, 1735, 1013, 1771, 510, 1775, 1032, 1779, 1043, 1795, 1082, 1810, 1094, 1822, 1110, 1834, 1118, 1853, 1126, 1869, 1138, 1890, 1146, 1894, 1153, 1898, 1160, 1902, 1167, 1906, 1174, 1910, 1181, 1939, 1189, 1943, 1196, 1947, 1206, 1955, 1214, 1963, 1229, 1979, 514, 1983, 1240, 1987, 573, 1995, 1247, 1999, 1258, 2007, 584, 2011, 1265, 2019, 662, 2023, 1272, 2035, 1279, 2043, 1286, 2047, 1301, 2059, 1308, 2063, 1319, 1951, 681, 2075, 689, 2079, 1326, 1865, 693, 2083, 1333, 2087, 1340, 1935, 1347, 1975, 1354, 1967, 1370, 2071, 1385, 1971, 699, 2039, 1392, 2091, 1413, 2099, 703, 2103, 707, 2107, 711, 2111, 715, 2115] : List Nat).filterMap (fun i => lw_tbl[i]?) := rfl
theorem qcw_good : ((List.range 15).flatMap (fun cl => (qcpl cl).flatMap (qcpW cl))).all goodWord = true := by decide +kernel
theorem qcw_all {cl i x y z : Nat} (h : cl < 15) (he : (i, x, y, z) ∈ qcpl cl) : ∀ w ∈ qcpW cl (i, x, y, z), w ∈ qW := fun w hw => by
  have hw2 : w ∈ (qcpl cl).flatMap (qcpW cl) := List.mem_flatMap.mpr ⟨_, he, hw⟩
  refine qinW ?_ (List.all_eq_true.mp qcw_good w (List.mem_flatMap.mpr ⟨cl, List.mem_range.mpr h, hw2⟩))
  match cl, h, hw2 with
  | 0, _, hw2 => exact qps _ qcw_0 w hw2
  | 1, _, hw2 => exact qps _ qcw_1 w hw2
  | 2, _, hw2 => exact qps _ qcw_2 w hw2
  | 3, _, hw2 => exact qps _ qcw_3 w hw2
  | 4, _, hw2 => exact qps _ qcw_4 w hw2
  | 5, _, hw2 => exact qps _ qcw_5 w hw2
  | 6, _, hw2 => exact qps _ qcw_6 w hw2
  | 7, _, hw2 => exact qps _ qcw_7 w hw2
  | 8, _, hw2 => exact qps _ qcw_8 w hw2
  | 9, _, hw2 => exact qps _ qcw_9 w hw2
  | 10, _, hw2 => exact qps _ qcw_10 w hw2
  | 11, _, hw2 => exact qps _ qcw_11 w hw2
  | 12, _, hw2 => exact qps _ qcw_12 w hw2
  | 13, _, hw2 => exact qps _ qcw_13 w hw2
  | 14, _, hw2 => exact qps _ qcw_14 w hw2
theorem qcl_g0 : (List.range' 0 50).map (fun k => qcn (qcl k)) = (List.range' 0 50).map (fun k => (qmn k).cls) := rfl
theorem qcl_g1 : (List.range' 50 50).map (fun k => qcn (qcl k)) = (List.range' 50 50).map (fun k => (qmn k).cls) := rfl
theorem qcl_g2 : (List.range' 100 50).map (fun k => qcn (qcl k)) = (List.range' 100 50).map (fun k => (qmn k).cls) := rfl
theorem qcl_g3 : (List.range' 150 30).map (fun k => qcn (qcl k)) = (List.range' 150 30).map (fun k => (qmn k).cls) := rfl
theorem qcl_g4 : (List.range' 180 30).map (fun k => qcn (qcl k)) = (List.range' 180 30).map (fun k => (qmn k).cls) := rfl
theorem qcl_g5 : (List.range' 210 40).map (fun k => qcn (qcl k)) = (List.range' 210 40).map (fun k => (qmn k).cls) := rfl
theorem qcl_g6 : (List.range' 250 40).map (fun k => qcn (qcl k)) = (List.range' 250 40).map (fun k => (qmn k).cls) := rfl
theorem qcl_g7 : (List.range' 290 58).map (fun k => qcn (qcl k)) = (List.range' 290 58).map (fun k => (qmn k).cls) := rfl
theorem qcl_g8 : (List.range' 348 1).map (fun k => qcn (qcl k)) = (List.range' 348 1).map (fun k => (qmn k).cls) := rfl
theorem qcl_cn {k : Nat} (h : k < 349) : qcn (qcl k) = (qmn k).cls := by
  rcases (by omega : (0 ≤ k ∧ k < 50) ∨ (50 ≤ k ∧ k < 100) ∨ (100 ≤ k ∧ k < 150) ∨ (150 ≤ k ∧ k < 180) ∨ (180 ≤ k ∧ k < 210) ∨ (210 ≤ k ∧ k < 250) ∨ (250 ≤ k ∧ k < 290) ∨ (290 ≤ k ∧ k < 348) ∨ (348 ≤ k ∧ k < 349)) with ⟨h1, h2⟩ | ⟨h1, h2⟩ | ⟨h1, h2⟩ | ⟨h1, h2⟩ | ⟨h1, h2⟩ | ⟨h1, h2⟩ | ⟨h1, h2⟩ | ⟨h1, h2⟩ | ⟨h1, h2⟩
  · exact qrg (P := fun k => qcn (qcl k) = (qmn k).cls) (List.map_inj_left.mp qcl_g0) h1 h2
  · exact qrg (P := fun k => qcn (qcl k) = (qmn k).cls) (List.map_inj_left.mp qcl_g1) h1 h2
  · exact qrg (P := fun k => qcn (qcl k) = (qmn k).cls) (List.map_inj_left.mp qcl_g2) h1 h2
  · exact qrg (P := fun k => qcn (qcl k) = (qmn k).cls) (List.map_inj_left.mp qcl_g3) h1 h2
  · exact qrg (P := fun k => qcn (qcl k) = (qmn k).cls) (List.map_inj_left.mp qcl_g4) h1 h2
  · exact qrg (P := fun k => qcn (qcl k) = (qmn k).cls) (List.map_inj_left.mp qcl_g5) h1 h2
  · exact qrg (P := fun k => qcn (qcl k) = (qmn k).cls) (List.map_inj_left.mp qcl_g6) h1 h2
  · exact qrg (P := fun k => qcn (qcl k) = (qmn k).cls) (List.map_inj_left.mp qcl_g7) h1 h2
  · exact qrg (P := fun k => qcn (qcl k) = (qmn k).cls) (List.map_inj_left.mp qcl_g8) h1 h2
theorem qcl_n : ∀ c, c < 15 → (c ≠ 13 → plainName (qcn c) = true) ∧ (qcn c ≠ "java/lang/invoke/MethodHandle" ∧ qcn c ≠ "java/lang/invoke/VarHandle") := by decide +kernel
def qclc (k : Nat) : Bool := Nat.blt (qcl k) 15 && (Nat.ble (qml k) 21 && ((Nat.beq k 298 || (Nat.beq k 299 || !Nat.beq (qcl k) 13)) && (qha k).all (fun h => !Nat.beq h.2.2.2 0 && (Nat.beq (qcp (qcl k) h.2.2.2).2.2 40 && (Nat.beq (qcp (qcl k) h.2.2.2).1 100 || Nat.beq (qcp (qcl k) h.2.2.2).1 101)))))
theorem qclc_ok : (List.range' 0 349).all qclc = true := by decide +kernel
theorem qt4_ok (k : Nat) (h : k < 349) : qcl k < 15 ∧ qcn (qcl k) = (qmn k).cls ∧ qml k ≤ 21 ∧ (k ≠ 298 → k ≠ 299 → plainName (qmn k).cls = true) ∧ ((qmn k).cls ≠ "java/lang/invoke/MethodHandle" ∧ (qmn k).cls ≠ "java/lang/invoke/VarHandle") ∧
    (∀ h ∈ qha k, h.2.2.2 ≠ 0 ∧ (qcp (qcl k) h.2.2.2).2.2 = 40 ∧ ((qcp (qcl k) h.2.2.2).1 = 100 ∨ (qcp (qcl k) h.2.2.2).1 = 101)) := by
  have h1 := qrg (P := fun k => qclc k = true) (List.all_eq_true.mp qclc_ok) (Nat.zero_le k) (by omega)
  dsimp only at h1
  unfold qclc at h1
  simp only [Bool.and_eq_true, Bool.or_eq_true, Bool.not_eq_true'] at h1
  obtain ⟨g1, g2, g3, g4⟩ := h1
  have g1 := nlT g1
  obtain ⟨c1, c2, c3⟩ := qcl_n _ g1
  rw [qcl_cn h] at c1 c2 c3
  refine ⟨g1, qcl_cn h, Nat.le_of_ble_eq_true g2, fun h8 h9 => c1 (fun g => ?_), ⟨c2, c3⟩, fun x hx => ?_⟩
  · rcases g3 with g3 | g3 | g3
    · exact h8 (nbT g3)
    · exact h9 (nbT g3)
    · rw [g, qbT] at g3; cases g3
  · have := List.all_eq_true.mp g4 x hx
    simp only [Bool.and_eq_true, Bool.or_eq_true, Bool.not_eq_true'] at this
    obtain ⟨a1, a2, a3⟩ := this
    refine ⟨fun g => ?_, nbT a2, ?_⟩
    · rw [g, qbT] at a1; cases a1
    · rcases a3 with a3 | a3
      · exact Or.inl (nbT a3)
      · exact Or.inr (nbT a3)
theorem qvw_0 : (u_ws (qvw 0).1 (qvw 0).2.1 (qvw 0).2.2 ++ [Cond.instantiable (qvw 0).1 (qvw 0).2.2, Cond.initialized (qvw 0).1]) = ([308, 310, 312, 314, 298, 118] : List Nat).filterMap (fun i => lw_tbl[i]?) := rfl
theorem qvg_0 : (u_ws (qvw 0).1 (qvw 0).2.1 (qvw 0).2.2 ++ [Cond.instantiable (qvw 0).1 (qvw 0).2.2, Cond.initialized (qvw 0).1]).all goodWord = true := by decide +kernel
theorem qvw_1 : (u_ws (qvw 1).1 (qvw 1).2.1 (qvw 1).2.2 ++ [Cond.instantiable (qvw 1).1 (qvw 1).2.2, Cond.initialized (qvw 1).1]) = ([383, 385, 387, 389, 391, 393, 395, 397, 399, 401, 403, 365, 120] : List Nat).filterMap (fun i => lw_tbl[i]?) := rfl
theorem qvg_1 : (u_ws (qvw 1).1 (qvw 1).2.1 (qvw 1).2.2 ++ [Cond.instantiable (qvw 1).1 (qvw 1).2.2, Cond.initialized (qvw 1).1]).all goodWord = true := by decide +kernel
theorem qvw_2 : (u_ws (qvw 2).1 (qvw 2).2.1 (qvw 2).2.2 ++ [Cond.instantiable (qvw 2).1 (qvw 2).2.2, Cond.initialized (qvw 2).1]) = ([246, 248, 250, 252, 254, 256, 258, 260, 262, 264, 266, 268, 270, 272, 274, 276, 278, 190, 116] : List Nat).filterMap (fun i => lw_tbl[i]?) := rfl
theorem qvg_2 : (u_ws (qvw 2).1 (qvw 2).2.1 (qvw 2).2.2 ++ [Cond.instantiable (qvw 2).1 (qvw 2).2.2, Cond.initialized (qvw 2).1]).all goodWord = true := by decide +kernel
theorem qvw_3 : (u_ws (qvw 3).1 (qvw 3).2.1 (qvw 3).2.2 ++ [Cond.instantiable (qvw 3).1 (qvw 3).2.2, Cond.initialized (qvw 3).1]) = ([290, 292, 294, 282, 117] : List Nat).filterMap (fun i => lw_tbl[i]?) := rfl
theorem qvg_3 : (u_ws (qvw 3).1 (qvw 3).2.1 (qvw 3).2.2 ++ [Cond.instantiable (qvw 3).1 (qvw 3).2.2, Cond.initialized (qvw 3).1]).all goodWord = true := by decide +kernel
theorem qvw_4 : (u_ws (qvw 4).1 (qvw 4).2.1 (qvw 4).2.2 ++ [Cond.instantiable (qvw 4).1 (qvw 4).2.2, Cond.initialized (qvw 4).1]) = ([415, 408, 121] : List Nat).filterMap (fun i => lw_tbl[i]?) := rfl
theorem qvg_4 : (u_ws (qvw 4).1 (qvw 4).2.1 (qvw 4).2.2 ++ [Cond.instantiable (qvw 4).1 (qvw 4).2.2, Cond.initialized (qvw 4).1]).all goodWord = true := by decide +kernel
theorem qvw_5 : (u_ws (qvw 5).1 (qvw 5).2.1 (qvw 5).2.2 ++ [Cond.instantiable (qvw 5).1 (qvw 5).2.2, Cond.initialized (qvw 5).1]) = ([346, 348, 350, 352, 354, 356, 358, 360, 318, 119] : List Nat).filterMap (fun i => lw_tbl[i]?) := rfl
theorem qvg_5 : (u_ws (qvw 5).1 (qvw 5).2.1 (qvw 5).2.2 ++ [Cond.instantiable (qvw 5).1 (qvw 5).2.2, Cond.initialized (qvw 5).1]).all goodWord = true := by decide +kernel
theorem qvw_6 : (u_ws (qvw 6).1 (qvw 6).2.1 (qvw 6).2.2 ++ [Cond.instantiable (qvw 6).1 (qvw 6).2.2, Cond.initialized (qvw 6).1]) = ([169, 171, 173, 175, 177, 179, 181, 183, 185, 143, 115] : List Nat).filterMap (fun i => lw_tbl[i]?) := rfl
theorem qvg_6 : (u_ws (qvw 6).1 (qvw 6).2.1 (qvw 6).2.2 ++ [Cond.instantiable (qvw 6).1 (qvw 6).2.2, Cond.initialized (qvw 6).1]).all goodWord = true := by decide +kernel
theorem qvw_7 : (u_ws (qvw 7).1 (qvw 7).2.1 (qvw 7).2.2 ++ [Cond.instantiable (qvw 7).1 (qvw 7).2.2, Cond.initialized (qvw 7).1]) = ([465, 467, 469, 471, 473, 475, 477, 479, 481, 483, 485, 487, 489, 491, 493, 495, 497, 499, 135, 114] : List Nat).filterMap (fun i => lw_tbl[i]?) := rfl
theorem qvg_7 : (u_ws (qvw 7).1 (qvw 7).2.1 (qvw 7).2.2 ++ [Cond.instantiable (qvw 7).1 (qvw 7).2.2, Cond.initialized (qvw 7).1]).all goodWord = true := by decide +kernel
theorem qvw_8 : (u_ws (qvw 8).1 (qvw 8).2.1 (qvw 8).2.2 ++ [Cond.instantiable (qvw 8).1 (qvw 8).2.2, Cond.initialized (qvw 8).1]) = ([1507, 1509, 1511, 1513, 1515, 1517, 1519, 1521, 1523, 1525, 1527, 1529, 1531, 1533, 1535, 1537, 1539, 1541, 1543, 1545, 1547, 1549, 1551, 1553, 1555, 1557, 1559, 1561, 1563, 1565, 1567, 1569, 1571, 1573, 1575, 1577, 1579, 1581, 1583, 1585, 1587, 1589, 1591, 1593, 1595, 1597, 1599, 1601, 1603, 1605, 1607, 1609, 1611, 1613, 1615, 1617, 1421, 122] : List Nat).filterMap (fun i => lw_tbl[i]?) := rfl
theorem qvg_8 : (u_ws (qvw 8).1 (qvw 8).2.1 (qvw 8).2.2 ++ [Cond.instantiable (qvw 8).1 (qvw 8).2.2, Cond.initialized (qvw 8).1]).all goodWord = true := by decide +kernel
theorem qvw_mem {W1 : List Cond} {a b : Cond} (h : ∀ w ∈ W1 ++ [a, b], w ∈ qW) : (∀ w ∈ W1, w ∈ qW) ∧ a ∈ qW ∧ b ∈ qW := ⟨fun w hw => h w (List.mem_append_left _ hw), h a (List.mem_append_right _ List.mem_cons_self), h b (List.mem_append_right _ (List.mem_cons_of_mem _ List.mem_cons_self))⟩
theorem qvw_fld : ∀ ci, ci < 9 → ∀ j, j < (qvw ci).2.2 → (qty ci j = .int ∨ defaultValue (qty ci j) = .null ∧ ¬ qty ci j = .int) := by decide +kernel
theorem qt5_ok : ∀ ci, ci < 9 → (∀ w ∈ u_ws (qvw ci).1 (qvw ci).2.1 (qvw ci).2.2, w ∈ qW) ∧ Cond.instantiable (qvw ci).1 (qvw ci).2.2 ∈ qW ∧ Cond.initialized (qvw ci).1 ∈ qW ∧ (qvw ci).2.2 < 2 ^ 31 ∧
    (∀ j, j < (qvw ci).2.2 → parseFieldDescriptor ((qvw ci).2.1 j).2.2.1 = some (qty ci j)) ∧ (∀ a, a < (qvw ci).2.2 → ∀ b, b < (qvw ci).2.2 → a ≠ b → ((qvw ci).2.1 a).2.1 ≠ ((qvw ci).2.1 b).2.1) ∧
    (∀ j, j < (qvw ci).2.2 → (qty ci j = .int ∨ defaultValue (qty ci j) = .null ∧ ¬ qty ci j = .int)) := fun ci h => by
  have hf := qvw_fld ci h
  match ci, h, hf with
  | 0, _, hf => obtain ⟨a1, a2, a3⟩ := qvw_mem (fun w hw => qinW (qps _ qvw_0 w hw) (List.all_eq_true.mp qvg_0 w hw)); exact ⟨a1, a2, a3, by decide, tyX0_ok, nmX0, hf⟩
  | 1, _, hf => obtain ⟨a1, a2, a3⟩ := qvw_mem (fun w hw => qinW (qps _ qvw_1 w hw) (List.all_eq_true.mp qvg_1 w hw)); exact ⟨a1, a2, a3, by decide, tyX1_ok, nmX1, hf⟩
  | 2, _, hf => obtain ⟨a1, a2, a3⟩ := qvw_mem (fun w hw => qinW (qps _ qvw_2 w hw) (List.all_eq_true.mp qvg_2 w hw)); exact ⟨a1, a2, a3, by decide, tyX2_ok, nmX2, hf⟩
  | 3, _, hf => obtain ⟨a1, a2, a3⟩ := qvw_mem (fun w hw => qinW (qps _ qvw_3 w hw) (List.all_eq_true.mp qvg_3 w hw)); exact ⟨a1, a2, a3, by decide, tyX3_ok, nmX3, hf⟩
  | 4, _, hf => obtain ⟨a1, a2, a3⟩ := qvw_mem (fun w hw => qinW (qps _ qvw_4 w hw) (List.all_eq_true.mp qvg_4 w hw)); exact ⟨a1, a2, a3, by decide, tyX4_ok, nmX4, hf⟩
  | 5, _, hf => obtain ⟨a1, a2, a3⟩ := qvw_mem (fun w hw => qinW (qps _ qvw_5 w hw) (List.all_eq_true.mp qvg_5 w hw)); exact ⟨a1, a2, a3, by decide, tyX5_ok, nmX5, hf⟩
  | 6, _, hf => obtain ⟨a1, a2, a3⟩ := qvw_mem (fun w hw => qinW (qps _ qvw_6 w hw) (List.all_eq_true.mp qvg_6 w hw)); exact ⟨a1, a2, a3, by decide, tyX6_ok, nmX6, hf⟩
  | 7, _, hf => obtain ⟨a1, a2, a3⟩ := qvw_mem (fun w hw => qinW (qps _ qvw_7 w hw) (List.all_eq_true.mp qvg_7 w hw)); exact ⟨a1, a2, a3, by decide, tyX7_ok, nmX7, hf⟩
  | 8, _, hf => obtain ⟨a1, a2, a3⟩ := qvw_mem (fun w hw => qinW (qps _ qvw_8 w hw) (List.all_eq_true.mp qvg_8 w hw)); exact ⟨a1, a2, a3, by decide, tyX8_ok, nmX8, hf⟩
theorem qth_0 : qthW 0 = ([133, 1060, 123, 753, 762, 765, 768, 770, 754, 755, 140, 141, 756, 761, 766, 782, 743, 783, 745, 784, 747, 757, 759, 749, 1069, 1070, 1071, 775, 775, 776, 777, 778, 778, 779, 780, 754, 1068, 1060, 1062, 764, 1063, 1064, 1065, 1066, 752, 751, 1067] : List Nat).filterMap (fun i => lw_tbl[i]?) := rfl
theorem qthg_0 : (qthW 0).all goodWord = true := by decide +kernel
theorem qth_1 : qthW 1 = ([126, 732, 123, 753, 762, 765, 768, 770, 754, 755, 140, 141, 756, 761, 766, 782, 743, 783, 745, 784, 747, 757, 759, 749, 772, 773, 774, 775, 775, 776, 777, 778, 778, 779, 780, 754, 771, 732, 740, 741, 742, 744, 746, 748, 752, 751, 750] : List Nat).filterMap (fun i => lw_tbl[i]?) := rfl
theorem qthg_1 : (qthW 1).all goodWord = true := by decide +kernel
def qtho (e : Nat) (w : Cond) : Bool := vx_ot w && (goodWord w || (match w with
  | .castable a b => decide (a = qen e) && decide (b = qen e)
  | .declares _ => true
  | _ => false))
theorem qtho_ok : (qthA 0).all (qtho 0) = true ∧ (qthA 1).all (qtho 1) = true := by decide +kernel
