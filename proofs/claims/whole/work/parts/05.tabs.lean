/-! classes by their places in vwCl; which words the machine's rows need -/
def zFt (c : Nat) : u_T := match c with
  | 0 => TX0 | 1 => TX1 | 2 => TX2 | 3 => TX3 | 4 => TX4 | 5 => TX5 | 6 => TX6 | 7 => TX7 | 8 => TX8 | 9 => TX10 | 10 => TX11 | _ => TX12
def zTy (c : Nat) : Nat → FieldType := match c with
  | 0 => tyX0 | 1 => tyX1 | 2 => tyX2 | 3 => tyX3 | 4 => tyX4 | 5 => tyX5 | 6 => tyX6 | 7 => tyX7 | 8 => tyX8 | 9 => tyX10 | 10 => tyX11 | _ => tyX12
def zNf (c : Nat) : Nat := match c with
  | 0 => 3 | 1 => 13 | 2 => 12 | 3 => 6 | 4 => 6 | 5 => 7 | 6 => 6 | 7 => 8 | 8 => 8 | 9 => 10 | 10 => 20 | _ => 82
def zRx (c : Nat) : String := match c with
  | 0 => RX0 | 1 => RX1 | 2 => RX2 | 3 => RX3 | 4 => RX4 | 5 => RX5 | 6 => RX6 | 7 => RX7 | 8 => RX8 | 9 => RX10 | 10 => RX11 | _ => RX12
theorem z_cl : ∀ c, c < 12 → vwCl[c]? = some (zRx c, zFt c, zNf c)
  | 0, _ => rfl | 1, _ => rfl | 2, _ => rfl | 3, _ => rfl | 4, _ => rfl | 5, _ => rfl | 6, _ => rfl | 7, _ => rfl | 8, _ => rfl | 9, _ => rfl | 10, _ => rfl | 11, _ => rfl
  | n + 12, h => absurd h (by omega)
theorem z_ty : ∀ c, c < 12 → ∀ k, k < zNf c → parseFieldDescriptor (zFt c k).2.2.1 = some (zTy c k)
  | 0, _ => tyX0_ok | 1, _ => tyX1_ok | 2, _ => tyX2_ok | 3, _ => tyX3_ok | 4, _ => tyX4_ok | 5, _ => tyX5_ok | 6, _ => tyX6_ok | 7, _ => tyX7_ok | 8, _ => tyX8_ok | 9, _ => tyX10_ok | 10, _ => tyX11_ok | 11, _ => tyX12_ok
  | n + 12, h => absurd h (by omega)
theorem z_nm : ∀ c, c < 12 → ∀ a, a < zNf c → ∀ b, b < zNf c → a ≠ b → (zFt c a).2.1 ≠ (zFt c b).2.1
  | 0, _ => nmX0 | 1, _ => nmX1 | 2, _ => nmX2 | 3, _ => nmX3 | 4, _ => nmX4 | 5, _ => nmX5 | 6, _ => nmX6 | 7, _ => nmX7 | 8, _ => nmX8 | 9, _ => nmX10 | 10, _ => nmX11 | 11, _ => nmX12
  | n + 12, h => absurd h (by omega)
noncomputable def zW : List Cond := lw_tbl.filter goodWord
theorem zW_good : ∀ w ∈ zW, goodWord w = true := fun _ h => (List.mem_filter.mp h).2
theorem zW_tbl : ∀ w ∈ zW, w ∈ lw_tbl := fun _ h => (List.mem_filter.mp h).1
theorem zW_in {w : Cond} {i : Nat} (h : tables_1[i]? = some w) (g : goodWord w = true) : w ∈ zW := List.mem_filter.mpr ⟨List.mem_append_right _ (List.mem_of_getElem? h), g⟩
def zAt (i : Nat) (w : Cond) : Bool := decide (tables_1[i]? = some w) && goodWord w
theorem zAt_in {i : Nat} {w : Cond} (h : zAt i w = true) : w ∈ zW := by
  simp only [zAt, Bool.and_eq_true, decide_eq_true_eq] at h
  exact zW_in h.1 h.2
def zPw : List (List Nat) := [[355, 357, 359], [896, 898, 900, 902, 904, 906, 908, 910, 912, 914, 916, 918, 920], [692, 693, 672, 674, 676, 678, 680, 682, 684, 686, 688, 690], [751, 752, 743, 745, 747, 749], [47, 49, 51, 53, 55, 57], [520, 521, 510, 512, 514, 516, 518], [602, 603, 594, 596, 598, 600], [126, 128, 130, 132, 134, 136, 138, 140], [281, 283, 269, 271, 273, 275, 277, 279], [84, 86, 88, 90, 92, 94, 96, 98, 100, 102], [166, 168, 170, 172, 174, 176, 178, 180, 182, 184, 186, 188, 190, 192, 194, 196, 198, 200, 202, 204], [1387, 1389, 1391, 1393, 1395, 1397, 1399, 1401, 1403, 1405, 1407, 1409, 1411, 1413, 1415, 1417, 1419, 1421, 1423, 1425, 1427, 1429, 1431, 1433, 1435, 1437, 1439, 1441, 1443, 1445, 1447, 1449, 1451, 1453, 1455, 1457, 1459, 1461, 1463, 1465, 1467, 1469, 1471, 1473, 1475, 1477, 1479, 1481, 1483, 1485, 1487, 1489, 1491, 1493, 1495, 1497, 1499, 1501, 1503, 1505, 1507, 1509, 1511, 1513, 1515, 1517, 1519, 1521, 1523, 1525, 1527, 1529, 1531, 1533, 1535, 1537, 1539, 1541, 1543, 1545, 1547, 1549]]
def zPc : List Nat := [631, 637, 72, 861, 972, 967, 951, 961, 947, 964, 957, 1011, 1016, 1008, 1004, 1000, 39, 68, 109, 27, 213, 210, 217, 225, 221, 232, 240, 237, 289, 229, 297, 301, 305, 293, 313, 317, 320, 323, 336, 332, 339, 343, 365, 327, 370, 309, 378, 382, 388, 391, 394, 385, 374, 401, 409, 405, 398, 413, 423, 426, 429, 432, 435, 442, 449, 445, 452, 455, 458, 464, 471, 467, 474, 477, 480, 417, 484, 493, 488, 530, 539, 542, 546, 534, 552, 526, 560, 579, 565, 556, 612, 616, 608, 628, 624, 620, 642, 651, 698, 646, 709, 713, 720, 724, 717, 705, 733, 729, 763, 757, 780, 775, 771, 767, 795, 800, 791, 787, 815, 819, 808, 823, 834, 831, 827, 838, 842, 846, 804, 850, 857, 875, 934, 943, 996, 1057, 938, 1075, 1070, 1066, 930, 926, 854, 1090, 1086, 1093, 1082, 1105, 1101, 1097, 1114, 1119, 1123, 1109, 1131, 1138, 1142, 1135, 1154, 1150, 1146, 1163, 1159, 1167, 1187, 1183, 1179, 1192, 1175, 1171, 1198, 1202, 1210, 1222, 1218, 1214, 1206, 1229, 1226, 1237, 1233, 1241, 1252, 1257, 1263, 1249, 1245, 1267, 1274, 1271, 1278, 1282, 1289, 1286, 1293, 1297, 1558, 1753, 1303, 1589, 1911, 1593, 1656, 1581, 1555, 1570, 1562, 1566, 1577, 1574, 1585, 1612, 1616, 1608, 1604, 1600, 1597, 1620, 1624, 1628, 1636, 1640, 1632, 1644, 1664, 1667, 1648, 1660, 1652, 1671, 1675, 1687, 1683, 1690, 1679, 1694, 1698, 1710, 1706, 1702, 1714, 1718, 1734, 1730, 1726, 1722, 1738, 1742, 1746, 1761, 1769, 1773, 1793, 1789, 1781, 1777, 1785, 1765, 1757, 1750, 1801, 1797, 1813, 1809, 1805, 1827, 1823, 1818, 1839, 1832, 1836, 1843, 1847, 1851, 1859, 1855, 1863, 1867, 1875, 1871, 1879, 1883, 1888, 1900, 1904, 1908, 1896, 1923, 1919, 1915, 1931, 1927, 1892, 1935, 1939, 1943, 1950, 1947, 1954, 1958, 1962]
def zPi : List Nat := [13, 13, 4, 4, 20, 18, 18, 18, 18, 19, 18, 19, 19, 19, 18, 18, 2, 3, 5, 1, 1, 1, 1, 1, 1, 1, 7, 8, 1, 1, 1, 1, 8, 1, 1, 8, 1, 1, 8, 8, 1, 9, 9, 8, 8, 1, 8, 9, 1, 1, 1, 1, 1, 1, 1, 1, 1, 1, 14, 15, 10, 11, 8, 14, 15, 15, 10, 11, 8, 14, 15, 15, 10, 11, 8, 1, 1, 10, 1, 1, 9, 1, 9, 10, 1, 1, 10, 9, 11, 1, 1, 11, 1, 9, 11, 1, 1, 14, 14, 1, 1, 14, 1, 1, 1, 1, 15, 1, 15, 1, 14, 14, 14, 1, 14, 1, 1, 1, 9, 9, 2, 2, 2, 2, 2, 2, 2, 2, 1, 1, 1, 16, 16, 16, 16, 16, 16, 16, 16, 16, 16, 16, 1, 1, 1, 1, 1, 1, 1, 1, 1, 16, 16, 1, 1, 1, 1, 1, 3, 3, 1, 3, 1, 1, 3, 3, 3, 3, 3, 1, 1, 1, 5, 5, 5, 5, 1, 1, 1, 1, 1, 1, 1, 1, 1, 1, 1, 1, 1, 1, 1, 1, 1, 1, 1, 1, 6, 6, 6, 6, 6, 6, 6, 6, 6, 6, 6, 6, 6, 6, 6, 6, 6, 6, 6, 6, 6, 6, 6, 6, 6, 6, 6, 6, 6, 6, 6, 6, 6, 6, 6, 6, 6, 6, 6, 6, 6, 6, 6, 6, 6, 6, 6, 6, 6, 6, 6, 6, 6, 6, 6, 6, 6, 6, 6, 6, 6, 6, 6, 6, 6, 6, 6, 6, 6, 6, 6, 6, 6, 6, 6, 6, 6, 6, 6, 6, 6, 6, 6, 6, 6, 6, 6, 6, 6, 6, 6, 6, 6, 6, 6, 6, 6, 6, 6, 6, 6, 6, 6, 6, 6]
set_option maxRecDepth 100000 in
theorem z_ws0 : ∀ c, c < 12 → ∀ k, k < zNf c → zAt ((zPw.getD c []).getD k 0) (u_lay (zRx c) (zFt c) k) = true := by decide +kernel
theorem z_ws : ∀ c, c < 12 → ∀ w ∈ u_ws (zRx c) (zFt c) (zNf c), w ∈ zW := by
  intro c hc w hw
  obtain ⟨k, hk, rfl⟩ := List.mem_map.mp hw
  exact zAt_in (z_ws0 c hc k (List.mem_range.mp hk))
set_option maxRecDepth 100000 in
theorem z_plain : ∀ m, m < 301 → plainName (zY m).cls = true := by decide +kernel
set_option maxRecDepth 100000 in
theorem z_init0 : ∀ m, m < 301 → zAt (zPi.getD m 0) (Cond.initialized (zY m).cls) = true := by decide +kernel
set_option maxRecDepth 100000 in
theorem z_code_0 : (List.range 60).map (fun m => tables_1[zPc.getD (0 + m) 0]?) = (List.range 60).map (fun m => some (Cond.code (zY (0 + m)) (zC (0 + m)) (zM (0 + m)) (zT (0 + m)))) := by rfl
set_option maxRecDepth 100000 in
theorem z_code_1 : (List.range 60).map (fun m => tables_1[zPc.getD (60 + m) 0]?) = (List.range 60).map (fun m => some (Cond.code (zY (60 + m)) (zC (60 + m)) (zM (60 + m)) (zT (60 + m)))) := by rfl
set_option maxRecDepth 100000 in
theorem z_code_2 : (List.range 60).map (fun m => tables_1[zPc.getD (120 + m) 0]?) = (List.range 60).map (fun m => some (Cond.code (zY (120 + m)) (zC (120 + m)) (zM (120 + m)) (zT (120 + m)))) := by rfl
set_option maxRecDepth 100000 in
theorem z_code_3 : (List.range 60).map (fun m => tables_1[zPc.getD (180 + m) 0]?) = (List.range 60).map (fun m => some (Cond.code (zY (180 + m)) (zC (180 + m)) (zM (180 + m)) (zT (180 + m)))) := by rfl
set_option maxRecDepth 100000 in
theorem z_code_4 : (List.range 60).map (fun m => tables_1[zPc.getD (240 + m) 0]?) = (List.range 60).map (fun m => some (Cond.code (zY (240 + m)) (zC (240 + m)) (zM (240 + m)) (zT (240 + m)))) := by rfl
set_option maxRecDepth 100000 in
theorem z_code_5 : (List.range 1).map (fun m => tables_1[zPc.getD (300 + m) 0]?) = (List.range 1).map (fun m => some (Cond.code (zY (300 + m)) (zC (300 + m)) (zM (300 + m)) (zT (300 + m)))) := by rfl
theorem z_code1 {a n : Nat} (h : (List.range n).map (fun m => tables_1[zPc.getD (a + m) 0]?) = (List.range n).map (fun m => some (Cond.code (zY (a + m)) (zC (a + m)) (zM (a + m)) (zT (a + m))))) (m : Nat) (h1 : a ≤ m) (h2 : m < a + n) : Cond.code (zY m) (zC m) (zM m) (zT m) ∈ zW := by
  have e := congrArg (fun l => l[m - a]?) h
  simp only [List.getElem?_map, List.getElem?_range (show m - a < n by omega), Option.map_some, show a + (m - a) = m by omega] at e
  exact zW_in (Option.some.inj e) rfl
theorem z_code (m : Nat) (h : m < 301) : Cond.code (zY m) (zC m) (zM m) (zT m) ∈ zW := by
  by_cases h0 : m < 60
  · exact z_code1 z_code_0 m (by omega) (by omega)
  by_cases h1 : m < 120
  · exact z_code1 z_code_1 m (by omega) (by omega)
  by_cases h2 : m < 180
  · exact z_code1 z_code_2 m (by omega) (by omega)
  by_cases h3 : m < 240
  · exact z_code1 z_code_3 m (by omega) (by omega)
  by_cases h4 : m < 300
  · exact z_code1 z_code_4 m (by omega) (by omega)
  exact z_code1 z_code_5 m (by omega) (by omega)
