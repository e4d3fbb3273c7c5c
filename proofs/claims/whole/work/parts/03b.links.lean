/-! The tables of part 05 against lw_tbl. -/
def si_aTs : List Cond := lw_tbl.filter goodWord
def si_fchk (o : Nat) : List (Nat × Nat × Nat × Nat × Bool) → List Nat → Bool
  | [], _ => true
  | _ :: _, [] => false
  | r :: l, q :: ps => decide (lw_tbl[q]? = some (Cond.fieldLink (si_RS o) r.1 (si_RS r.2.1) (si_T r.2.1 r.2.2.1).2.1 (si_T r.2.1 r.2.2.1).2.2.1)) && (decide (r.2.1 < 12 ∧ r.2.2.1 < si_N r.2.1 ∧ (si_T r.2.1 r.2.2.1).1 = si_RS r.2.1 ∧ (si_T r.2.1 r.2.2.1).2.2.2 = r.2.2.2.2 ∧ si_ty r.2.1 r.2.2.1 = r.2.2.2.1) && si_fchk o l ps)
set_option maxRecDepth 100000 in
theorem si_fk_0 : si_fchk 0 (si_fd 0) (si_fdp 0) = true := by decide +kernel
set_option maxRecDepth 100000 in
theorem si_fk_1 : si_fchk 1 (si_fd 1) (si_fdp 1) = true := by decide +kernel
set_option maxRecDepth 100000 in
theorem si_fk_2 : si_fchk 2 (si_fd 2) (si_fdp 2) = true := by decide +kernel
set_option maxRecDepth 100000 in
theorem si_fk_3 : si_fchk 3 (si_fd 3) (si_fdp 3) = true := by decide +kernel
set_option maxRecDepth 100000 in
theorem si_fk_4 : si_fchk 4 (si_fd 4) (si_fdp 4) = true := by decide +kernel
set_option maxRecDepth 100000 in
theorem si_fk_5 : si_fchk 5 (si_fd 5) (si_fdp 5) = true := by decide +kernel
set_option maxRecDepth 100000 in
theorem si_fk_6 : si_fchk 6 (si_fd 6) (si_fdp 6) = true := by decide +kernel
set_option maxRecDepth 100000 in
theorem si_fk_7 : si_fchk 7 (si_fd 7) (si_fdp 7) = true := by decide +kernel
set_option maxRecDepth 100000 in
theorem si_fk_8 : si_fchk 8 (si_fd 8) (si_fdp 8) = true := by decide +kernel
set_option maxRecDepth 100000 in
theorem si_fk_9 : si_fchk 9 (si_fd 9) (si_fdp 9) = true := by decide +kernel
set_option maxRecDepth 100000 in
theorem si_fk_10 : si_fchk 10 (si_fd 10) (si_fdp 10) = true := by decide +kernel
set_option maxRecDepth 100000 in
theorem si_fk_11 : si_fchk 11 (si_fd 11) (si_fdp 11) = true := by decide +kernel
set_option maxRecDepth 100000 in
theorem si_fk_20 : si_fchk 20 (si_fd 20) (si_fdp 20) = true := by decide +kernel
/-- of each method: does the row of the table fit its name (code, what comes back, arguments, receiver) -/
def si_kfit (y : Nat) (n : MethodName × ByteArray × Option FieldType) (q : ai_F × Nat × Nat × Nat) : Bool :=
  decide (n.1.cls = si_RS q.1.1 ∧ q.1.2.1 = decide (n.1.name = "<init>") ∧ n.1.cls ≠ "java/lang/invoke/MethodHandle" ∧ n.1.cls ≠ "java/lang/invoke/VarHandle" ∧ (parseMethodDescriptor n.1.desc).map (fun d => d.parameters.length) = some (q.2.2.1 - (if q.2.2.2 = 0 then 0 else 1)) ∧ (q.2.2.2 = 0 ∨ (q.2.2.2 = q.1.1 + 1 ∧ 1 ≤ q.2.2.1 ∧ q.1.1 < 12)) ∧ (q.1.2.1 = true → n.2.2 = none ∧ ¬ q.2.2.2 = 0) ∧ q.2.1 ≤ 12 ∧ plainName n.1.cls = true) && (match q.1.2.2.1, n.2.2 with
    | 0, some .int => true
    | 1, some .long => true
    | 2, some (.object _) => true
    | 2, some (.array _) => true
    | 3, some .boolean => true
    | 4, some .byte => true
    | 5, some .char => true
    | 9, none => true
    | _, _ => false)
def si_beq (a b : ByteArray) : Bool := a.data.toList == b.data.toList
theorem si_beq_eq {a b : ByteArray} (h : si_beq a b = true) : a = b := by
  have h1 : a.data.toList = b.data.toList := by simpa [si_beq] using h
  have h2 : a.data = b.data := Array.toList_inj.mp h1
  cases a
  cases b
  simp at h2
  rw [h2]
def si_isC (w : Option Cond) (y : MethodName) (b : ByteArray) (x : Nat) (r : Option FieldType) : Bool := match w with
  | some (.code y2 b2 x2 r2) => decide (y2 = y ∧ x2 = x ∧ r2 = r) && si_beq b2 b
  | _ => false
theorem si_isC_eq {w : Option Cond} {y : MethodName} {b : ByteArray} {x : Nat} {r : Option FieldType} (h : si_isC w y b x r = true) : w = some (.code y b x r) := by
  unfold si_isC at h
  split at h
  · simp only [Bool.and_eq_true, decide_eq_true_eq] at h
    obtain ⟨⟨h1, h2, h3⟩, h4⟩ := h
    rw [h1, h2, h3, si_beq_eq h4]
  · cases h
def si_kchk1 (y : Nat) (ps : Nat × Nat × Nat × Nat) : Bool := match si_nq y, si_mq y with
  | some n, some q => si_isC lw_tbl[ps.1]? n.1 n.2.1 q.2.1 n.2.2 && (decide (lw_tbl[ps.2.2.2]? = some (Cond.initialized n.1.cls)) && (si_kfit y n q && (match q.2.2.2 with
    | 0 => decide (lw_tbl[ps.2.1]? = some (Cond.static n.1))
    | _ => decide (lw_tbl[ps.2.1]? = some (Cond.instanceMethod n.1)) && (q.1.2.1 || decide (lw_tbl[ps.2.2.1]? = some (Cond.selects n.1.cls n.1 n.1))))))
  | _, _ => false
def si_kchk : Nat → List (Nat × Nat × Nat × Nat) → Bool
  | _, [] => true
  | y, p :: l => si_kchk1 y p && si_kchk (y + 1) l
def si_kp_0 : List (Nat × Nat × Nat × Nat) := [(304, 303, 0, 145), (545, 543, 544, 145), (681, 679, 680, 145), (741, 739, 740, 145), (653, 651, 652, 145), (634, 633, 7, 145), (560, 559, 5, 145), (552, 551, 3, 145), (556, 555, 4, 145), (582, 581, 6, 145), (563, 562, 0, 145), (638, 637, 8, 145), (657, 656, 11, 145), (661, 660, 12, 145), (665, 664, 13, 145), (670, 669, 14, 145), (642, 641, 9, 145), (646, 645, 10, 145), (649, 648, 0, 145), (1185, 1183, 1184, 145)]
set_option maxRecDepth 100000 in
theorem si_kk_0 : si_kchk 0 si_kp_0 = true := by decide +kernel
def si_kp_1 : List (Nat × Nat × Nat × Nat) := [(1189, 1188, 45, 145), (1193, 1192, 46, 145), (423, 422, 0, 150), (1049, 1047, 1048, 150), (1250, 1248, 1249, 150), (1053, 1052, 39, 150), (1059, 1058, 40, 150), (1063, 1061, 1062, 150), (1068, 1067, 41, 150), (1073, 1072, 42, 150), (1269, 1268, 0, 150), (365, 364, 0, 147), (850, 848, 849, 147), (854, 853, 35, 147), (859, 858, 0, 147), (866, 864, 865, 147), (981, 979, 980, 147), (349, 348, 0, 146), (693, 691, 692, 146), (698, 697, 16, 146)]
set_option maxRecDepth 100000 in
theorem si_kk_1 : si_kchk 20 si_kp_1 = true := by decide +kernel
def si_kp_2 : List (Nat × Nat × Nat × Nat) := [(746, 745, 24, 146), (703, 702, 17, 146), (805, 804, 34, 146), (708, 707, 18, 146), (718, 717, 19, 146), (722, 721, 20, 146), (729, 728, 21, 146), (733, 732, 22, 146), (737, 736, 23, 146), (750, 749, 25, 146), (759, 758, 26, 146), (767, 766, 27, 146), (774, 773, 28, 146), (778, 777, 29, 146), (794, 793, 32, 146), (782, 781, 30, 146), (786, 785, 31, 146), (798, 797, 33, 146), (464, 463, 0, 152), (1204, 1202, 1203, 152)]
set_option maxRecDepth 100000 in
theorem si_kk_2 : si_kchk 40 si_kp_2 = true := by decide +kernel
def si_kp_3 : List (Nat × Nat × Nat × Nat) := [(1207, 1206, 0, 152), (1231, 1229, 1230, 152), (1213, 1212, 47, 152), (1218, 1217, 48, 152), (1222, 1221, 49, 152), (1226, 1225, 50, 152), (842, 841, 0, 159), (846, 845, 0, 159), (870, 869, 0, 159), (1026, 1025, 0, 159), (882, 881, 0, 159), (879, 878, 0, 159), (1137, 1136, 0, 159), (888, 887, 0, 159), (885, 884, 0, 159), (934, 933, 0, 159), (1126, 1125, 0, 159), (1084, 1083, 0, 159), (1089, 1088, 0, 159), (1102, 1101, 0, 159)]
set_option maxRecDepth 100000 in
theorem si_kk_3 : si_kchk 60 si_kp_3 = true := by decide +kernel
def si_kp_4 : List (Nat × Nat × Nat × Nat) := [(1105, 1104, 0, 159), (1115, 1114, 0, 159), (1112, 1111, 0, 159), (1119, 1118, 0, 159), (1239, 1238, 0, 159), (1242, 1241, 0, 159), (1262, 1261, 0, 159), (410, 409, 0, 149), (990, 988, 989, 149), (1036, 1035, 38, 149), (1006, 1005, 37, 149), (1000, 998, 999, 149), (1018, 1016, 1017, 149), (996, 994, 995, 149), (1031, 1029, 1030, 149), (172, 171, 0, 140), (689, 687, 688, 140), (685, 683, 684, 140), (812, 810, 811, 140), (1322, 1320, 1321, 140)]
set_option maxRecDepth 100000 in
theorem si_kk_4 : si_kchk 80 si_kp_4 = true := by decide +kernel
def si_kp_5 : List (Nat × Nat × Nat × Nat) := [(1330, 1328, 1329, 140), (387, 386, 0, 148), (770, 769, 0, 148), (789, 788, 0, 148), (942, 940, 941, 148), (959, 957, 958, 148), (950, 948, 949, 148), (954, 953, 36, 148), (976, 974, 975, 148), (971, 969, 970, 148), (1145, 1143, 1144, 148), (179, 178, 0, 141), (245, 243, 244, 141), (253, 251, 252, 141), (260, 258, 259, 141), (264, 263, 0, 141), (277, 276, 1, 141), (820, 818, 819, 141), (712, 710, 711, 141), (754, 752, 753, 141)]
set_option maxRecDepth 100000 in
theorem si_kk_5 : si_kchk 100 si_kp_5 = true := by decide +kernel
def si_kp_6 : List (Nat × Nat × Nat × Nat) := [(763, 761, 762, 141), (902, 900, 901, 141), (898, 896, 897, 141), (875, 873, 874, 141), (834, 832, 833, 141), (838, 836, 837, 141), (446, 445, 0, 151), (1157, 1155, 1156, 151), (1162, 1161, 43, 151), (1165, 1164, 0, 151), (1170, 1168, 1169, 151), (1175, 1174, 44, 151), (1286, 1284, 1285, 151), (1281, 1280, 0, 151), (1278, 1277, 0, 151), (1290, 1289, 0, 151), (164, 163, 0, 139), (533, 531, 532, 139), (537, 536, 2, 139), (541, 539, 540, 139)]
set_option maxRecDepth 100000 in
theorem si_kk_6 : si_kchk 120 si_kp_6 = true := by decide +kernel
def si_kp_7 : List (Nat × Nat × Nat × Nat) := [(676, 675, 15, 139), (825, 823, 824, 139), (830, 828, 829, 139), (894, 892, 893, 139), (906, 904, 905, 139), (910, 908, 909, 139), (914, 912, 913, 139), (921, 919, 920, 139), (926, 924, 925, 139), (931, 929, 930, 139), (938, 936, 937, 139), (963, 961, 962, 139), (967, 965, 966, 139), (986, 984, 985, 139), (1014, 1012, 1013, 139), (1023, 1021, 1022, 139), (1041, 1039, 1040, 139), (1077, 1075, 1076, 139), (1081, 1079, 1080, 139), (1094, 1092, 1093, 139)]
set_option maxRecDepth 100000 in
theorem si_kk_7 : si_kchk 140 si_kp_7 = true := by decide +kernel
def si_kp_8 : List (Nat × Nat × Nat × Nat) := [(1098, 1096, 1097, 139), (1109, 1107, 1108, 139), (1123, 1121, 1122, 139), (1134, 1132, 1133, 139), (1141, 1139, 1140, 139), (1149, 1147, 1148, 139), (1153, 1151, 1152, 139), (1181, 1179, 1180, 139), (1200, 1198, 1199, 139), (1236, 1234, 1235, 139), (1246, 1244, 1245, 139), (1258, 1256, 1257, 139), (1266, 1264, 1265, 139), (1275, 1273, 1274, 139), (1295, 1293, 1294, 139), (1299, 1297, 1298, 139), (1309, 1307, 1308, 139), (1313, 1311, 1312, 139), (1318, 1316, 1317, 139), (1326, 1324, 1325, 139)]
set_option maxRecDepth 100000 in
theorem si_kk_8 : si_kchk 160 si_kp_8 = true := by decide +kernel
def si_kp_9 : List (Nat × Nat × Nat × Nat) := [(1335, 1333, 1334, 139), (1339, 1337, 1338, 139), (862, 861, 0, 139), (267, 266, 0, 139), (1302, 1301, 0, 139), (801, 800, 0, 139), (1044, 1043, 0, 139), (1129, 1128, 0, 139), (1344, 1343, 0, 153), (1465, 1464, 0, 153), (1639, 1638, 0, 153), (1625, 1624, 0, 153), (1553, 1552, 0, 153), (1519, 1518, 0, 153), (2024, 2023, 137, 153), (1577, 1576, 72, 153), (1581, 1580, 73, 153), (1643, 1642, 86, 153), (1585, 1584, 74, 153), (1617, 1616, 82, 153)]
set_option maxRecDepth 100000 in
theorem si_kk_9 : si_kchk 180 si_kp_9 = true := by decide +kernel
def si_kp_10 : List (Nat × Nat × Nat × Nat) := [(1686, 1685, 0, 153), (1714, 1713, 96, 153), (1706, 1705, 95, 153), (1838, 1837, 114, 153), (1659, 1658, 89, 153), (1943, 1942, 126, 153), (1457, 1456, 51, 153), (1453, 1451, 1452, 153), (1481, 1480, 55, 153), (1473, 1472, 53, 153), (1494, 1493, 57, 153), (1477, 1476, 54, 153), (1490, 1489, 56, 153), (1501, 1500, 58, 153), (1506, 1505, 59, 153), (1511, 1510, 60, 153), (1516, 1515, 61, 153), (1469, 1468, 52, 153), (1461, 1459, 1460, 153), (1546, 1545, 65, 153)]
set_option maxRecDepth 100000 in
theorem si_kk_10 : si_kchk 200 si_kp_10 = true := by decide +kernel
def si_kp_11 : List (Nat × Nat × Nat × Nat) := [(1557, 1556, 67, 153), (1573, 1572, 71, 153), (1663, 1662, 90, 153), (1651, 1650, 88, 153), (1542, 1541, 64, 153), (1550, 1549, 66, 153), (1565, 1564, 69, 153), (1561, 1560, 68, 153), (1569, 1568, 70, 153), (1593, 1592, 76, 153), (1589, 1588, 75, 153), (1632, 1631, 0, 153), (1629, 1628, 84, 153), (1601, 1600, 78, 153), (1597, 1596, 77, 153), (1605, 1604, 79, 153), (1636, 1635, 85, 153), (1647, 1646, 87, 153), (1609, 1608, 80, 153), (1667, 1666, 91, 153)]
set_option maxRecDepth 100000 in
theorem si_kk_11 : si_kchk 220 si_kp_11 = true := by decide +kernel
def si_kp_12 : List (Nat × Nat × Nat × Nat) := [(1538, 1537, 63, 153), (1534, 1533, 62, 153), (1671, 1669, 1670, 153), (1678, 1676, 1677, 153), (1690, 1689, 92, 153), (1698, 1697, 94, 153), (1694, 1693, 93, 153), (1759, 1758, 104, 153), (1683, 1681, 1682, 153), (1702, 1700, 1701, 153), (1718, 1717, 97, 153), (1726, 1725, 98, 153), (1738, 1737, 100, 153), (1767, 1766, 106, 153), (1734, 1733, 99, 153), (1710, 1708, 1709, 153), (1722, 1720, 1721, 153), (1730, 1728, 1729, 153), (1763, 1762, 105, 153), (1747, 1746, 101, 153)]
set_option maxRecDepth 100000 in
theorem si_kk_12 : si_kchk 240 si_kp_12 = true := by decide +kernel
def si_kp_13 : List (Nat × Nat × Nat × Nat) := [(1751, 1750, 102, 153), (1755, 1754, 103, 153), (1742, 1740, 1741, 153), (1771, 1769, 1770, 153), (1775, 1773, 1774, 153), (1622, 1621, 83, 153), (1613, 1612, 81, 153), (1790, 1789, 0, 153), (1787, 1786, 108, 153), (1783, 1782, 107, 153), (1779, 1777, 1778, 153), (1794, 1792, 1793, 153), (1802, 1801, 109, 153), (1798, 1796, 1797, 153), (1818, 1817, 112, 153), (1814, 1813, 111, 153), (1810, 1809, 110, 153), (1806, 1804, 1805, 153), (1822, 1820, 1821, 153), (1830, 1829, 113, 153)]
set_option maxRecDepth 100000 in
theorem si_kk_13 : si_kchk 260 si_kp_13 = true := by decide +kernel
def si_kp_14 : List (Nat × Nat × Nat × Nat) := [(1826, 1824, 1825, 153), (1846, 1845, 116, 153), (1842, 1841, 115, 153), (1858, 1857, 119, 153), (1854, 1853, 118, 153), (1850, 1849, 117, 153), (1834, 1832, 1833, 153), (1862, 1860, 1861, 153), (1870, 1869, 120, 153), (1875, 1874, 121, 153), (1866, 1864, 1865, 153), (1879, 1877, 1878, 153), (1889, 1888, 0, 153), (1883, 1881, 1882, 153), (1896, 1895, 0, 153), (1899, 1898, 0, 153), (1893, 1891, 1892, 153), (1903, 1901, 1902, 153), (1907, 1905, 1906, 153), (1915, 1914, 122, 153)]
set_option maxRecDepth 100000 in
theorem si_kk_14 : si_kchk 280 si_kp_14 = true := by decide +kernel
def si_kp_15 : List (Nat × Nat × Nat × Nat) := [(1911, 1909, 1910, 153), (1919, 1917, 1918, 153), (1931, 1930, 124, 153), (1927, 1926, 123, 153), (1923, 1921, 1922, 153), (1947, 1946, 127, 153), (1939, 1938, 125, 153), (1935, 1933, 1934, 153), (1955, 1954, 128, 153), (1959, 1958, 129, 153), (1951, 1949, 1950, 153), (1975, 1974, 132, 153), (1979, 1978, 133, 153), (1971, 1970, 131, 153), (1967, 1966, 130, 153), (1963, 1961, 1962, 153), (1991, 1990, 135, 153), (1987, 1986, 134, 153), (1983, 1981, 1982, 153), (1995, 1993, 1994, 153)]
set_option maxRecDepth 100000 in
theorem si_kk_15 : si_kchk 300 si_kp_15 = true := by decide +kernel
def si_kp_16 : List (Nat × Nat × Nat × Nat) := [(1999, 1997, 1998, 153), (2003, 2001, 2002, 153), (2011, 2010, 136, 153), (2015, 2014, 0, 153), (2007, 2005, 2006, 153), (2019, 2017, 2018, 153), (2028, 2026, 2027, 153), (2033, 2031, 2032, 153), (2037, 2035, 2036, 153), (2041, 2039, 2040, 153), (2045, 2043, 2044, 153), (270, 269, 0, 144), (249, 248, 0, 142)]
set_option maxRecDepth 100000 in
theorem si_kk_16 : si_kchk 320 si_kp_16 = true := by decide +kernel
/-- a call's link -/
def si_mchk1 (o : Nat) (r : Nat × Nat × Nat) (q : Nat) : Bool := match r.2.2 with
  | 9 => (match r.2.1 with
    | 999 => decide (lw_tbl[q]? = some (Cond.methodLink (si_RS o) r.1 Lib.objectInit))
    | 995 => decide (lw_tbl[q]? = some (Cond.methodLink (si_RS o) r.1 Lib.Math.max.name))
    | 994 => decide (lw_tbl[q]? = some (Cond.methodLink (si_RS o) r.1 Lib.Math.min.name))
    | 993 => decide (lw_tbl[q]? = some (Cond.methodLink (si_RS o) r.1 Lib.Math.abs.name))
    | 998 => decide (lw_tbl[q]? = some (Cond.methodLink (si_RS o) r.1 arraycopyName))
    | 997 => decide (lw_tbl[q]? = some (Cond.methodLink (si_RS o) r.1 ⟨"java/lang/String", "length", "()I"⟩) ∧ o = 0)
    | 996 => decide (lw_tbl[q]? = some (Cond.methodLink (si_RS o) r.1 ⟨"java/lang/String", "charAt", "(I)C"⟩) ∧ o = 0)
    | _ => false)
  | md => decide (r.2.1 < 333 ∧ md ≤ 5) && (match si_nq r.2.1, si_mq r.2.1 with
    | some n, some u => (if md < 3 then decide (lw_tbl[q]? = some (Cond.methodLink (si_RS o) r.1 n.1)) else decide (lw_tbl[q]? = some (Cond.methodLinkNest (si_RS o) r.1 n.1 "PricedBases"))) && decide ((md % 3 = 0 → ¬ u.2.2.2 = 0 ∧ u.1.2.1 = false) ∧ (md % 3 = 1 → u.2.2.2 = 0) ∧ (md % 3 = 2 → u.1.2.1 = true))
    | _, _ => false)
def si_mchk (o : Nat) : List (Nat × Nat × Nat) → List Nat → Bool
  | [], _ => true
  | _ :: _, [] => false
  | r :: l, q :: ps => si_mchk1 o r q && si_mchk o l ps
set_option maxRecDepth 100000 in
theorem si_mk_0 : si_mchk 0 (si_mh 0) (si_mhp 0) = true := by decide +kernel
set_option maxRecDepth 100000 in
theorem si_mk_1 : si_mchk 1 (si_mh 1) (si_mhp 1) = true := by decide +kernel
set_option maxRecDepth 100000 in
theorem si_mk_2 : si_mchk 2 (si_mh 2) (si_mhp 2) = true := by decide +kernel
set_option maxRecDepth 100000 in
theorem si_mk_3 : si_mchk 3 (si_mh 3) (si_mhp 3) = true := by decide +kernel
set_option maxRecDepth 100000 in
theorem si_mk_4 : si_mchk 4 (si_mh 4) (si_mhp 4) = true := by decide +kernel
set_option maxRecDepth 100000 in
theorem si_mk_5 : si_mchk 5 (si_mh 5) (si_mhp 5) = true := by decide +kernel
set_option maxRecDepth 100000 in
theorem si_mk_6 : si_mchk 6 (si_mh 6) (si_mhp 6) = true := by decide +kernel
set_option maxRecDepth 100000 in
theorem si_mk_7 : si_mchk 7 (si_mh 7) (si_mhp 7) = true := by decide +kernel
set_option maxRecDepth 100000 in
theorem si_mk_8 : si_mchk 8 (si_mh 8) (si_mhp 8) = true := by decide +kernel
set_option maxRecDepth 100000 in
theorem si_mk_9 : si_mchk 9 (si_mh 9) (si_mhp 9) = true := by decide +kernel
set_option maxRecDepth 100000 in
theorem si_mk_10 : si_mchk 10 (si_mh 10) (si_mhp 10) = true := by decide +kernel
set_option maxRecDepth 100000 in
theorem si_mk_11 : si_mchk 11 (si_mh 11) (si_mhp 11) = true := by decide +kernel
set_option maxRecDepth 100000 in
theorem si_mk_20 : si_mchk 20 (si_mh 20) (si_mhp 20) = true := by decide +kernel
set_option maxRecDepth 100000 in
theorem si_mk_21 : si_mchk 21 (si_mh 21) (si_mhp 21) = true := by decide +kernel
def si_cchk1 (o : Nat) (r : Nat × ai_V) (q : Nat) : Bool := match r.2 with
  | .inl x => decide (lw_tbl[q]? = some (Cond.constant (si_RS o) r.1 x))
  | .inr (.inl x) => decide (lw_tbl[q]? = some (Cond.constantLong (si_RS o) r.1 x))
  | .inr (.inr k) => decide (o = 0 ∧ 2000 ≤ k) && (match si_nth si_txs (k - 2000) with
    | some u => decide (u.1 = r.1 ∧ lw_tbl[q]? = some (Cond.stringRef (si_RS o) r.1 u.2))
    | none => false)
def si_cchk (o : Nat) : List (Nat × ai_V) → List Nat → Bool
  | [], _ => true
  | _ :: _, [] => false
  | r :: l, q :: ps => si_cchk1 o r q && si_cchk o l ps
set_option maxRecDepth 100000 in
theorem si_ck_0 : si_cchk 0 (si_ct 0) (si_ctp 0) = true := by decide +kernel
set_option maxRecDepth 100000 in
theorem si_ck_1 : si_cchk 1 (si_ct 1) (si_ctp 1) = true := by decide +kernel
set_option maxRecDepth 100000 in
theorem si_ck_2 : si_cchk 2 (si_ct 2) (si_ctp 2) = true := by decide +kernel
set_option maxRecDepth 100000 in
theorem si_ck_3 : si_cchk 3 (si_ct 3) (si_ctp 3) = true := by decide +kernel
set_option maxRecDepth 100000 in
theorem si_ck_4 : si_cchk 4 (si_ct 4) (si_ctp 4) = true := by decide +kernel
set_option maxRecDepth 100000 in
theorem si_ck_5 : si_cchk 5 (si_ct 5) (si_ctp 5) = true := by decide +kernel
set_option maxRecDepth 100000 in
theorem si_ck_7 : si_cchk 7 (si_ct 7) (si_ctp 7) = true := by decide +kernel
set_option maxRecDepth 100000 in
theorem si_ck_8 : si_cchk 8 (si_ct 8) (si_ctp 8) = true := by decide +kernel
set_option maxRecDepth 100000 in
theorem si_ck_9 : si_cchk 9 (si_ct 9) (si_ctp 9) = true := by decide +kernel
set_option maxRecDepth 100000 in
theorem si_ck_10 : si_cchk 10 (si_ct 10) (si_ctp 10) = true := by decide +kernel
set_option maxRecDepth 100000 in
theorem si_ck_11 : si_cchk 11 (si_ct 11) (si_ctp 11) = true := by decide +kernel
set_option maxRecDepth 100000 in
theorem si_ck_22 : si_cchk 22 (si_ct 22) (si_ctp 22) = true := by decide +kernel
def si_nchk (o : Nat) : List (Nat × Nat) → List Nat → Bool
  | [], _ => true
  | _ :: _, [] => false
  | r :: l, q :: ps => decide (lw_tbl[q]? = some (Cond.classLink (si_RS o) r.1 (si_RS r.2)) ∧ r.2 < 12) && si_nchk o l ps
set_option maxRecDepth 100000 in
theorem si_nk_3 : si_nchk 3 (si_kt 3) (si_ktp 3) = true := by decide +kernel
set_option maxRecDepth 100000 in
theorem si_nk_6 : si_nchk 6 (si_kt 6) (si_ktp 6) = true := by decide +kernel
set_option maxRecDepth 100000 in
theorem si_nk_10 : si_nchk 10 (si_kt 10) (si_ktp 10) = true := by decide +kernel
set_option maxRecDepth 100000 in
theorem si_nk_21 : si_nchk 21 (si_kt 21) (si_ktp 21) = true := by decide +kernel
def si_lp (k : Nat) : List Nat := match k with
  | 0 => [321, 323, 325, 327, 329, 331, 333, 335, 337, 339, 341]
  | 1 => [433, 435, 437, 439]
  | 2 => [374, 376, 378, 380]
  | 3 => [356, 358]
  | 4 => [472, 474, 476, 478, 480]
  | 5 => [414, 416]
  | 6 => [289, 291, 293, 295, 297]
  | 7 => [397, 399, 401, 403]
  | 8 => [228, 230, 232, 234, 236, 238]
  | 9 => [453, 455, 457]
  | 10 => [499, 501, 503, 505, 507, 509, 511, 513, 515, 517, 519, 521, 523, 525, 527]
  | 11 => [1381, 1383, 1385, 1387, 1389, 1391, 1393, 1395, 1397, 1399, 1401, 1403, 1405, 1407, 1409, 1411, 1413, 1415, 1417, 1419, 1421, 1423, 1425, 1427, 1429, 1431, 1433, 1435, 1437, 1439, 1441, 1443, 1445, 1447]
  | _ => []
def si_lp2 (k : Nat) : Nat × Nat := match k with
  | 0 => (301, 145)
  | 1 => (420, 150)
  | 2 => (362, 147)
  | 3 => (346, 146)
  | 4 => (461, 152)
  | 5 => (407, 149)
  | 6 => (169, 140)
  | 7 => (384, 148)
  | 8 => (176, 141)
  | 9 => (443, 151)
  | 10 => (161, 139)
  | 11 => (1341, 153)
  | _ => (0, 0)
def si_gchk1 (k : Nat) : Nat → List Nat → Bool
  | j, q :: ps => decide (lw_tbl[q]? = some (u_lay (si_RS k) (si_T k) j) ∧ parseFieldDescriptor (si_T k j).2.2.1 = some (si_ft k j) ∧ si_code (si_ft k j) = si_ty k j ∧ si_ty k j ≤ 3) && si_gchk1 k (j + 1) ps
  | j, [] => decide (si_N k ≤ j)
def si_gchk (k : Nat) : Bool := si_gchk1 k 0 (si_lp k) && (decide (lw_tbl[(si_lp2 k).1]? = some (Cond.instantiable (si_RS k) (si_N k)) ∧ lw_tbl[(si_lp2 k).2]? = some (Cond.initialized (si_RS k))) && (List.range (si_N k)).all (fun x => (List.range (si_N k)).all (fun y => decide (x = y ∨ (si_T k x).2.1 ≠ (si_T k y).2.1))))
theorem si_cl_0 : si_cl[0]? = some (si_RS 0, si_T 0, si_N 0) := rfl
theorem si_cl_1 : si_cl[1]? = some (si_RS 1, si_T 1, si_N 1) := rfl
theorem si_cl_2 : si_cl[2]? = some (si_RS 2, si_T 2, si_N 2) := rfl
theorem si_cl_3 : si_cl[3]? = some (si_RS 3, si_T 3, si_N 3) := rfl
theorem si_cl_4 : si_cl[4]? = some (si_RS 4, si_T 4, si_N 4) := rfl
theorem si_cl_5 : si_cl[5]? = some (si_RS 5, si_T 5, si_N 5) := rfl
theorem si_cl_6 : si_cl[6]? = some (si_RS 6, si_T 6, si_N 6) := rfl
theorem si_cl_7 : si_cl[7]? = some (si_RS 7, si_T 7, si_N 7) := rfl
theorem si_cl_8 : si_cl[8]? = some (si_RS 8, si_T 8, si_N 8) := rfl
theorem si_cl_9 : si_cl[9]? = some (si_RS 9, si_T 9, si_N 9) := rfl
theorem si_cl_10 : si_cl[10]? = some (si_RS 10, si_T 10, si_N 10) := rfl
theorem si_cl_11 : si_cl[11]? = some (si_RS 11, si_T 11, si_N 11) := rfl
set_option maxRecDepth 100000 in
theorem si_gk_0 : si_gchk 0 = true := by decide +kernel
set_option maxRecDepth 100000 in
theorem si_gk_1 : si_gchk 1 = true := by decide +kernel
set_option maxRecDepth 100000 in
theorem si_gk_2 : si_gchk 2 = true := by decide +kernel
set_option maxRecDepth 100000 in
theorem si_gk_3 : si_gchk 3 = true := by decide +kernel
set_option maxRecDepth 100000 in
theorem si_gk_4 : si_gchk 4 = true := by decide +kernel
set_option maxRecDepth 100000 in
theorem si_gk_5 : si_gchk 5 = true := by decide +kernel
set_option maxRecDepth 100000 in
theorem si_gk_6 : si_gchk 6 = true := by decide +kernel
set_option maxRecDepth 100000 in
theorem si_gk_7 : si_gchk 7 = true := by decide +kernel
set_option maxRecDepth 100000 in
theorem si_gk_8 : si_gchk 8 = true := by decide +kernel
set_option maxRecDepth 100000 in
theorem si_gk_9 : si_gchk 9 = true := by decide +kernel
set_option maxRecDepth 100000 in
theorem si_gk_10 : si_gchk 10 = true := by decide +kernel
set_option maxRecDepth 100000 in
theorem si_gk_11 : si_gchk 11 = true := by decide +kernel
set_option maxRecDepth 100000 in
theorem si_w_0 : Cond.code Lib.objectInit ⟨#[0xb1]⟩ 1 none ∈ lw_tbl := List.mem_of_getElem? (i := 167) (by decide +kernel)
set_option maxRecDepth 100000 in
theorem si_w_1 : Cond.instanceMethod Lib.objectInit ∈ lw_tbl := List.mem_of_getElem? (i := 166) (by decide +kernel)
set_option maxRecDepth 100000 in
theorem si_w_2 : Cond.native arraycopyName ∈ lw_tbl := List.mem_of_getElem? (i := 815) (by decide +kernel)
set_option maxRecDepth 100000 in
theorem si_w_3 : Cond.static arraycopyName ∈ lw_tbl := List.mem_of_getElem? (i := 814) (by decide +kernel)
set_option maxRecDepth 100000 in
theorem si_w_4 : Cond.initialized "java/lang/System" ∈ lw_tbl := List.mem_of_getElem? (i := 158) (by decide +kernel)
set_option maxRecDepth 100000 in
theorem si_w_5 : Cond.arrayClass .byte ∈ lw_tbl := List.mem_of_getElem? (i := 344) (by decide +kernel)
set_option maxRecDepth 100000 in
theorem si_w_6 : Cond.arrayClass .int ∈ lw_tbl := List.mem_of_getElem? (i := 241) (by decide +kernel)
set_option maxRecDepth 100000 in
theorem si_w_7 : Cond.arrayClass .long ∈ lw_tbl := List.mem_of_getElem? (i := 483) (by decide +kernel)
set_option maxRecDepth 100000 in
theorem si_w_8 : Cond.arrayOver (.object "PricedBases$Valuation") ∈ lw_tbl := List.mem_of_getElem? (i := 175) (by decide +kernel)
set_option maxRecDepth 100000 in
theorem si_w_9 : Cond.initialized "java/lang/Math" ∈ lw_tbl := List.mem_of_getElem? (i := 143) (by decide +kernel)
set_option maxRecDepth 100000 in
theorem si_w_10 : Cond.static Lib.Math.max.name ∈ lw_tbl := List.mem_of_getElem? (i := 255) (by decide +kernel)
set_option maxRecDepth 100000 in
theorem si_w_11 : Cond.static Lib.Math.min.name ∈ lw_tbl := List.mem_of_getElem? (i := 547) (by decide +kernel)
set_option maxRecDepth 100000 in
theorem si_w_12 : Cond.static Lib.Math.abs.name ∈ lw_tbl := List.mem_of_getElem? (i := 1195) (by decide +kernel)
set_option maxRecDepth 100000 in
theorem si_w_13 : Cond.initialized "java/lang/String" ∈ lw_tbl := List.mem_of_getElem? (i := 154) (by decide +kernel)
set_option maxRecDepth 100000 in
theorem si_w_14 : Cond.instanceMethod ⟨"java/lang/String", "length", "()I"⟩ ∈ lw_tbl := List.mem_of_getElem? (i := 584) (by decide +kernel)
set_option maxRecDepth 100000 in
theorem si_w_15 : Cond.selects "java/lang/String" ⟨"java/lang/String", "length", "()I"⟩ ⟨"java/lang/String", "length", "()I"⟩ ∈ lw_tbl := List.mem_of_getElem? (i := 585) (by decide +kernel)
set_option maxRecDepth 100000 in
theorem si_w_16 : Cond.instanceMethod ⟨"java/lang/String", "charAt", "(I)C"⟩ ∈ lw_tbl := List.mem_of_getElem? (i := 594) (by decide +kernel)
set_option maxRecDepth 100000 in
theorem si_w_17 : Cond.selects "java/lang/String" ⟨"java/lang/String", "charAt", "(I)C"⟩ ⟨"java/lang/String", "charAt", "(I)C"⟩ ∈ lw_tbl := List.mem_of_getElem? (i := 595) (by decide +kernel)
set_option maxRecDepth 100000 in
theorem si_wm_0 : Cond.code Lib.Math.max.name Lib.Math.max.code 2 (some .int) ∈ lw_tbl := List.mem_of_getElem? (i := 256) (si_isC_eq (by decide +kernel))
set_option maxRecDepth 100000 in
theorem si_wm_1 : Cond.code Lib.Math.min.name Lib.Math.min.code 2 (some .int) ∈ lw_tbl := List.mem_of_getElem? (i := 548) (si_isC_eq (by decide +kernel))
set_option maxRecDepth 100000 in
theorem si_wm_2 : Cond.code Lib.Math.abs.name Lib.Math.abs.code 1 (some .int) ∈ lw_tbl := List.mem_of_getElem? (i := 1196) (si_isC_eq (by decide +kernel))
set_option maxRecDepth 100000 in
theorem si_wt_0 : Cond.code ⟨"java/lang/String", "length", "()I"⟩ prog_17_method_54_code 1 (some .int) ∈ lw_tbl := List.mem_of_getElem? (i := 586) (si_isC_eq (by decide +kernel))
set_option maxRecDepth 100000 in
theorem si_wt_1 : Cond.code ⟨"java/lang/String", "charAt", "(I)C"⟩ prog_17_method_56_code 2 (some .char) ∈ lw_tbl := List.mem_of_getElem? (i := 596) (si_isC_eq (by decide +kernel))
