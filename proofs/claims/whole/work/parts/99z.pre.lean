/-! THE PREMISES OF THE START, BY THEIR PLACES (printed by genstart.py) -/
def pFL : List Cond := flatC (Jvm.Cond.and given_1 narrow_1)
theorem pinM {big : List Cond} {α : Type} {f : α → Cond} {xs : List α} (ps : List Nat) (h : xs.map f = ps.filterMap (fun i => big[i]?)) : ∀ x ∈ xs, f x ∈ big := by
  intro x hx
  have h1 : f x ∈ xs.map f := List.mem_map.mpr ⟨x, hx, rfl⟩
  rw [h] at h1
  obtain ⟨i, -, hi⟩ := List.mem_filterMap.mp h1
  exact List.mem_of_getElem? hi
theorem pinN {f : Nat → Cond} {n : Nat} (ps : List Nat) (h : (List.range n).map f = ps.filterMap (fun i => pFL[i]?)) : ∀ j, j < n → f j ∈ pFL := fun j hj => pinM ps h j (List.mem_range.mpr hj)
theorem pinD {f : Nat → Cond} {k n : Nat} (h : (List.range n).map f = (pFL.drop k).take n) : ∀ j, j < n → f j ∈ pFL := by
  intro j hj
  have h1 : f j ∈ (List.range n).map f := List.mem_map.mpr ⟨j, List.mem_range.mpr hj, rfl⟩
  rw [h] at h1
  exact List.mem_of_mem_drop (List.mem_of_mem_take h1)
theorem pin1 {c : Cond} (k : Nat) (h : pFL[k]? = some c) : c ∈ pFL := List.mem_of_getElem? h
theorem pit1 {c : Cond} (k : Nat) (h : tables_1[k]? = some c) : c ∈ lw_tbl := List.mem_append_right _ (List.mem_of_getElem? h)
theorem pitL {α : Type} {f : α → Cond} {xs : List α} (ps : List Nat) (h : xs.map f = ps.filterMap (fun i => tables_1[i]?)) : ∀ x ∈ xs, f x ∈ lw_tbl := fun x hx => List.mem_append_right _ (pinM ps h x hx)
/-- the commands: their names, their terms -/
def cmN (k : Nat) : String := match k with
  | 0 => "BLOCK"
  | 1 => "POINT"
  | 2 => "LINK"
  | 3 => "TRAIN"
  | 4 => "SET"
  | 5 => "FREE"
  | 6 => "SHUT"
  | 7 => "OPEN"
  | 8 => "THROW"
  | 9 => "WAIT"
  | _ => "WAIT_MINUTES"
def cmT (k : Nat) : Term := .static "InterlockingBox$Command" (cmN k) "LInterlockingBox$Command;"
def cmF (k : Nat) : Nat := match k with
  | 0 => 61
  | 1 => 67
  | 2 => 70
  | 3 => 73
  | 4 => 76
  | 5 => 79
  | 6 => 82
  | 7 => 85
  | 8 => 88
  | 9 => 91
  | _ => 94
theorem pc_ex : ∀ j, j < 11 → Cond.exactly (cmT j) "InterlockingBox$Command" ∈ pFL := pinN [250, 254, 259, 265, 272, 280, 289, 299, 310, 4, 322] (by decide +kernel)
theorem pc_or : ∀ j, j < 11 → Cond.eq (.field (cmT j) "java/lang/Enum" "ordinal" "I") (.int (nI j)) ∈ pFL := pinN [251, 255, 260, 266, 273, 281, 290, 300, 311, 5, 323] (by decide +kernel)
theorem pc_fo : ∀ j, j < 11 → Cond.eq (.field (cmT j) "InterlockingBox$Command" "form" "Ljava/lang/String;") (.string "InterlockingBox$Command" (cmF j)) ∈ pFL := pinN [252, 256, 261, 267, 274, 282, 291, 301, 312, 6, 324] (by decide +kernel)
/-- the strings: their terms, their characters -/
def sT (i : Nat) : Term := match i with
  | 0 => .string "InterlockingBox$Command" 61
  | 1 => .string "InterlockingBox$Command" 67
  | 2 => .string "InterlockingBox$Command" 70
  | 3 => .string "InterlockingBox$Command" 73
  | 4 => .string "InterlockingBox$Command" 76
  | 5 => .string "InterlockingBox$Command" 79
  | 6 => .string "InterlockingBox$Command" 82
  | 7 => .string "InterlockingBox$Command" 85
  | 8 => .string "InterlockingBox$Command" 88
  | 9 => .string "InterlockingBox$Command" 91
  | 10 => .string "InterlockingBox$Command" 94
  | 11 => .string "InterlockingBoxModel" 279
  | 12 => .string "InterlockingBoxModel" 281
  | 13 => .string "InterlockingBoxModel" 283
  | 14 => .string "InterlockingBoxModel" 285
  | 15 => .string "InterlockingBoxModel" 287
  | 16 => .string "InterlockingBoxModel" 289
  | 17 => .string "InterlockingBoxModel" 291
  | 18 => .string "InterlockingBoxModel" 293
  | 19 => .string "InterlockingBoxModel" 295
  | 20 => .string "InterlockingBoxModel" 297
  | 21 => .string "InterlockingBoxModel" 299
  | _ => .string "InterlockingBoxModel" 273
def sN (i : Nat) : List Nat := match i with
  | 0 => [98, 108, 111, 99, 107, 32, 35]
  | 1 => [112, 111, 105, 110, 116, 32, 42, 62, 42, 44, 42]
  | 2 => [108, 105, 110, 107, 32, 42, 62, 42]
  | 3 => [116, 114, 97, 105, 110, 32, 42, 62, 42]
  | 4 => [115, 101, 116, 32, 42]
  | 5 => [102, 114, 101, 101, 32, 42]
  | 6 => [115, 104, 117, 116, 32, 42]
  | 7 => [111, 112, 101, 110, 32, 42]
  | 8 => [116, 104, 114, 111, 119, 32, 35]
  | 9 => [119, 97, 105, 116]
  | 10 => [119, 97, 105, 116, 32, 42]
  | 11 => [98, 108, 111, 99, 107, 32]
  | 12 => [112, 111, 105, 110, 116, 32]
  | 13 => [62]
  | 14 => [44]
  | 15 => [108, 105, 110, 107, 32]
  | 16 => [116, 104, 114, 111, 119, 32]
  | 17 => [116, 114, 97, 105, 110, 32]
  | 18 => [115, 104, 117, 116, 32]
  | 19 => [115, 101, 116, 32]
  | 20 => [102, 114, 101, 101, 32]
  | 21 => [111, 112, 101, 110, 32]
  | _ => [32]
theorem ps_ex : ∀ j, j < 23 → Cond.exactly (sT j) "java/lang/String" ∈ pFL := pinN [1386, 1397, 1412, 1424, 1437, 1446, 1456, 1466, 1476, 1377, 1487, 1270, 1280, 1290, 1295, 1300, 1309, 1319, 1329, 1338, 1346, 1355, 1372] (by decide +kernel)
theorem ps_co : ∀ j, j < 23 → Cond.eq (.field (sT j) "java/lang/String" "coder" "B") (.int 0) ∈ pFL := pinN [1387, 1398, 1413, 1425, 1438, 1447, 1457, 1467, 1477, 1378, 1488, 1271, 1281, 1291, 1296, 1301, 1310, 1320, 1330, 1339, 1347, 1356, 1373] (by decide +kernel)
theorem ps_ar : ∀ j, j < 23 → Cond.arrayOf (.field (sT j) "java/lang/String" "value" "[B") .byte ∈ pFL := pinN [1388, 1399, 1414, 1426, 1439, 1448, 1458, 1468, 1478, 1379, 1489, 1272, 1282, 1292, 1297, 1302, 1311, 1321, 1331, 1340, 1348, 1357, 1374] (by decide +kernel)
theorem ps_le : ∀ j, j < 23 → Cond.eq (.length (.field (sT j) "java/lang/String" "value" "[B")) (.int (Int32.ofNat (sN j).length)) ∈ pFL := pinN [1389, 1400, 1415, 1427, 1440, 1449, 1459, 1469, 1479, 1380, 1490, 1273, 1283, 1293, 1298, 1303, 1312, 1322, 1332, 1341, 1349, 1358, 1375] (by decide +kernel)
def sK (i : Nat) : Nat := match i with
  | 0 => 1390
  | 1 => 1401
  | 2 => 1416
  | 3 => 1428
  | 4 => 1441
  | 5 => 1450
  | 6 => 1460
  | 7 => 1470
  | 8 => 1480
  | 9 => 1381
  | 10 => 1491
  | 11 => 1274
  | 12 => 1284
  | 13 => 1294
  | 14 => 1299
  | 15 => 1304
  | 16 => 1313
  | 17 => 1323
  | 18 => 1333
  | 19 => 1342
  | 20 => 1350
  | 21 => 1359
  | _ => 1376
theorem ps_e0 : ∀ i, i < 23 → (List.range (sN i).length).map (fun j => Cond.eq (.elem (.field (sT i) "java/lang/String" "value" "[B") (.int (Int32.ofNat j))) (.int (nI ((sN i).getD j 0)))) = (pFL.drop (sK i)).take (sN i).length := by decide +kernel
theorem ps_el : ∀ i, i < 23 → ∀ j, j < (sN i).length → Cond.eq (.elem (.field (sT i) "java/lang/String" "value" "[B") (.int (Int32.ofNat j))) (.int (nI ((sN i).getD j 0))) ∈ pFL := fun i hi => pinD (ps_e0 i hi)
theorem ps_wa : Cond.eq (.string "InterlockingBoxModel" 271) (.string "InterlockingBox$Command" 91) ∈ pFL := pin1 1385 (by decide +kernel)
abbrev pAT : Term := .static "InterlockingBox" "COMMANDS" "[LInterlockingBox$Command;"
theorem pA_ar : Cond.arrayOf pAT (.object RX1) ∈ pFL := pin1 222 (by decide +kernel)
theorem pA_le : Cond.eq (.length pAT) (.int (Int32.ofNat 11)) ∈ pFL := pin1 223 (by decide +kernel)
theorem pA_el : ∀ j, j < 11 → Cond.eq (.elem pAT (.int (Int32.ofNat j))) (cmT j) ∈ pFL := pinD (k := 225) (by decide +kernel)
abbrev pST : Term := .static "InterlockingBox$1" "$SwitchMap$InterlockingBox$Command" "[I"
theorem pS_ar : Cond.arrayOf pST .int ∈ pFL := pin1 237 (by decide +kernel)
theorem pS_le : Cond.eq (.length pST) (.int (Int32.ofNat 11)) ∈ pFL := pin1 238 (by decide +kernel)
theorem pS_el : ∀ j, j < 11 → Cond.eq (.elem pST (.int (Int32.ofNat j))) (.int (nI (if j = 10 then 0 else j + 1))) ∈ pFL := pinD (k := 239) (by decide +kernel)
abbrev pTT : Term := .static "java/lang/Integer" "DigitTens" "[B"
theorem pT_ar : Cond.arrayOf pTT .byte ∈ pFL := pin1 116 (by decide +kernel)
theorem pT_le : Cond.eq (.length pTT) (.int (Int32.ofNat 100)) ∈ pFL := pin1 117 (by decide +kernel)
theorem pT_el : ∀ j, j < 100 → Cond.eq (.elem pTT (.int (Int32.ofNat j))) (.int (nI (48 + j / 10))) ∈ pFL := pinD (k := 118) (by decide +kernel)
abbrev pOT : Term := .static "java/lang/Integer" "DigitOnes" "[B"
theorem pO_ar : Cond.arrayOf pOT .byte ∈ pFL := pin1 13 (by decide +kernel)
theorem pO_le : Cond.eq (.length pOT) (.int (Int32.ofNat 100)) ∈ pFL := pin1 14 (by decide +kernel)
theorem pO_el : ∀ j, j < 100 → Cond.eq (.elem pOT (.int (Int32.ofNat j))) (.int (nI (48 + j % 10))) ∈ pFL := pinD (k := 15) (by decide +kernel)
theorem pCS : Cond.eq (.static "java/lang/String" "COMPACT_STRINGS" "Z") (.int 1) ∈ pFL := pin1 7 (by decide +kernel)
theorem pSI : Cond.isRef (.static "jdk/internal/util/Preconditions" "SIOOBE_FORMATTER" "Ljava/util/function/BiFunction;") ∈ pFL := pin1 8 (by decide +kernel)
theorem pUS : Cond.isRef (.static "java/lang/Throwable" "UNASSIGNED_STACK" "[Ljava/lang/StackTraceElement;") ∈ pFL := pin1 218 (by decide +kernel)
theorem pSS : Cond.isRef (.static "java/lang/Throwable" "SUPPRESSED_SENTINEL" "Ljava/util/List;") ∈ pFL := pin1 219 (by decide +kernel)
theorem pm_ex : ∀ q ∈ mgl, Cond.exactly (.string q.1 q.2.1) "java/lang/String" ∈ pFL := pinM [601, 627, 661, 678, 705, 726, 743, 790, 807, 834, 855, 889, 919, 953, 975, 999, 1035, 1056, 1079, 1105, 1135, 1152, 1172, 1200, 1221, 1248] (by decide +kernel)
theorem pm_st : ∀ q ∈ mgl, Cond.stringRef q.1 q.2.1 q.2.2 ∈ lw_tbl := pitL [998, 1003, 1014, 1030, 1046, 1262, 1278, 1291, 1301, 1314, 1344, 1405, 1440, 1456, 1465, 1473, 1496, 1505, 1527, 1549, 1608, 1633, 1641, 1649, 1662, 1670] (by decide +kernel)
theorem pl_st : ∀ q ∈ stl, Cond.stringRef q.1 q.2.1 q.2.2.1 ∈ lw_tbl := pitL [2170, 2181, 2182, 2183, 2184, 2185, 2186, 2187, 2188, 2189, 2190, 2195, 2196] (by decide +kernel)
theorem pn_f : ∀ q ∈ nfl, Cond.fieldLinkNest q.1 q.2.1 q.2.2.1 q.2.2.2.1 q.2.2.2.2.1 q.2.2.2.2.2 ∈ lw_tbl := pitL [60, 154, 117, 121, 128, 165, 113, 132, 162, 168, 159, 249, 255, 253, 200, 148, 161, 167, 123, 126, 164, 156, 59, 62, 64, 69, 66, 153, 150, 115, 119, 147, 112, 130, 158, 1565, 2258, 116, 120, 127, 131, 111, 124, 67] (by decide +kernel)
theorem pn_m : ∀ q ∈ nml, Cond.methodLinkNest q.1 q.2.1 q.2.2.1 q.2.2.2 ∈ lw_tbl := pitL [210, 514, 530, 416, 52, 106, 894, 1131] (by decide +kernel)
theorem pn_c : ∀ q ∈ cal, Cond.castable q.1 q.2 ∈ lw_tbl := pitL [1489, 865, 2236, 741, 1039, 991, 2237, 1023, 1007] (by decide +kernel)
theorem pn_n : ∀ q ∈ ncl, Cond.not (.castable q.1 q.2) ∈ pFL := pinM [350, 368, 385, 420, 402, 434, 364, 381, 416, 398, 437, 348, 384, 418, 400, 433, 345, 363, 415, 397, 436, 347, 366, 383, 399, 435, 346, 365, 382, 417] (by decide +kernel)
theorem pn_d : ∀ y ∈ dcl, Cond.declares y ∈ lw_tbl := pitL [1625, 744, 745, 866, 867, 742, 743, 746, 747] (by decide +kernel)
theorem pn_o : ∀ C ∈ [RX7, RX8, RX1], Cond.arrayOver (.object C) ∈ lw_tbl := pitL [195, 104, 243] (by decide +kernel)
theorem pn_a : Cond.arrayOver (.array .int) ∈ lw_tbl := pit1 57 (by decide +kernel)
theorem pn_p : ∀ t ∈ [FieldType.int, .long, .double, .byte, .char], Cond.arrayClass t ∈ lw_tbl := pitL [102, 2221, 2222, 302, 269] (by decide +kernel)
def sst : List (String × String × String) := [("InterlockingBox", "COMMANDS", "[LInterlockingBox$Command;"), ("InterlockingBox$1", "$SwitchMap$InterlockingBox$Command", "[I"), ("InterlockingBox$Command", "WAIT", "LInterlockingBox$Command;"), ("java/lang/String", "COMPACT_STRINGS", "Z"), ("java/lang/Integer", "DigitTens", "[B"), ("java/lang/Integer", "DigitOnes", "[B"), ("jdk/internal/util/Preconditions", "SIOOBE_FORMATTER", "Ljava/util/function/BiFunction;"), ("java/lang/Throwable", "UNASSIGNED_STACK", "[Ljava/lang/StackTraceElement;"), ("java/lang/Throwable", "SUPPRESSED_SENTINEL", "Ljava/util/List;")]
theorem pz_l : ∀ q ∈ sst, Cond.laysStatic q.1 q.2.1 q.2.2 ∈ lw_tbl := pitL [1566, 1618, 246, 280, 694, 692, 622, 766, 768] (by decide +kernel)
theorem pz_i : ∀ q ∈ sst, Cond.initialized q.1 ∈ lw_tbl := pitL [1, 35, 9, 12, 28, 28, 33, 17, 17] (by decide +kernel)
theorem pz_c : ∀ q ∈ CL, Cond.instantiable q.1 q.2.2 ∈ lw_tbl := pitL [37, 189, 51, 237, 209, 45, 105, 1676, 271] (by decide +kernel)
theorem px_p : ∀ y ∈ xsl, Cond.privateMethod y ∈ lw_tbl := pitL [574, 578] (by decide +kernel)
theorem px_i : ∀ y ∈ xsl, Cond.instanceMethod y ∈ lw_tbl := pitL [575, 579] (by decide +kernel)
abbrev yASB : MethodName := ⟨"java/lang/AbstractStringBuilder", "isLatin1", "()Z"⟩
theorem px_s : Cond.selects RJ4 yASB yASB ∈ lw_tbl := pit1 607 (by decide +kernel)
