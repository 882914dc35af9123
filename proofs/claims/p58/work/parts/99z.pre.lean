/-! THE PREMISES OF THE START, BY THEIR PLACES (printed by genstart.py) -/
def pFL : List Cond := flatC (Jvm.Cond.and given_1 narrow_1)
theorem pinM {big : List Cond} {α : Type} {f : α → Cond} {xs : List α} (ps : List Nat) (h : xs.map f = ps.filterMap (fun i => big[i]?)) : ∀ x ∈ xs, f x ∈ big := by
  intro x hx
  have h1 : f x ∈ xs.map f := List.mem_map.mpr ⟨x, hx, rfl⟩
  rw [h] at h1
  obtain ⟨i, -, hi⟩ := List.mem_filterMap.mp h1
  exact List.mem_of_getElem? hi
theorem pinN {f : Nat → Cond} {n : Nat} (ps : List Nat) (h : (List.range n).map f = ps.filterMap (fun i => pFL[i]?)) : ∀ j, j < n → f j ∈ pFL := fun j hj => pinM ps h j (List.mem_range.mpr hj)
theorem pinD {f : Nat → Cond} {k n : Nat} (h : (List.range n).map f = (pFL.drop k).take n) : ∀ j, j < n → f j ∈ pFL := by
  intro j hj
  have h1 : f j ∈ (List.range n).map f := List.mem_map.mpr ⟨j, List.mem_range.mpr hj, rfl⟩
  rw [h] at h1
  exact List.mem_of_mem_drop (List.mem_of_mem_take h1)
theorem pin1 {c : Cond} (k : Nat) (h : pFL[k]? = some c) : c ∈ pFL := List.mem_of_getElem? h
theorem pit1 {c : Cond} (k : Nat) (h : tables_1[k]? = some c) : c ∈ lw_tbl := List.mem_append_right _ (List.mem_of_getElem? h)
theorem pitL {α : Type} {f : α → Cond} {xs : List α} (ps : List Nat) (h : xs.map f = ps.filterMap (fun i => tables_1[i]?)) : ∀ x ∈ xs, f x ∈ lw_tbl := fun x hx => List.mem_append_right _ (pinM ps h x hx)
/-- the commands: their names, their terms -/
def cmN (k : Nat) : String := match k with
  | 0 => "BLOCK"
  | 1 => "POINT"
  | 2 => "LINK"
  | 3 => "TRAIN"
  | 4 => "SET"
  | 5 => "FREE"
  | 6 => "SHUT"
  | 7 => "OPEN"
  | 8 => "THROW"
  | 9 => "WAIT"
  | _ => "WAIT_MINUTES"
def cmT (k : Nat) : Term := .static "InterlockingBox$Command" (cmN k) "LInterlockingBox$Command;"
def cmF (k : Nat) : Nat := match k with
  | 0 => 61
  | 1 => 67
  | 2 => 70
  | 3 => 73
  | 4 => 76
  | 5 => 79
  | 6 => 82
  | 7 => 85
  | 8 => 88
  | 9 => 91
  | _ => 94
theorem pc_ex : ∀ j, j < 11 → Cond.exactly (cmT j) "InterlockingBox$Command" ∈ pFL := pinN [250, 254, 259, 265, 272, 280, 289, 299, 310, 4, 322] (by decide +kernel)
theorem pc_or : ∀ j, j < 11 → Cond.eq (.field (cmT j) "java/lang/Enum" "ordinal" "I") (.int (nI j)) ∈ pFL := pinN [251, 255, 260, 266, 273, 281, 290, 300, 311, 5, 323] (by decide +kernel)
theorem pc_fo : ∀ j, j < 11 → Cond.eq (.field (cmT j) "InterlockingBox$Command" "form" "Ljava/lang/String;") (.string "InterlockingBox$Command" (cmF j)) ∈ pFL := pinN [252, 256, 261, 267, 274, 282, 291, 301, 312, 6, 324] (by decide +kernel)
/-- the strings: their terms, their characters -/
def sT (i : Nat) : Term := match i with
  | 0 => .string "InterlockingBox$Command" 61
  | 1 => .string "InterlockingBox$Command" 67
  | 2 => .string "InterlockingBox$Command" 70
  | 3 => .string "InterlockingBox$Command" 73
  | 4 => .string "InterlockingBox$Command" 76
  | 5 => .string "InterlockingBox$Command" 79
  | 6 => .string "InterlockingBox$Command" 82
  | 7 => .string "InterlockingBox$Command" 85
  | 8 => .string "InterlockingBox$Command" 88
  | 9 => .string "InterlockingBox$Command" 91
  | 10 => .string "InterlockingBox$Command" 94
  | 11 => .string "InterlockingBoxLaw" 278
  | 12 => .string "InterlockingBoxLaw" 287
  | 13 => .string "InterlockingBoxLaw" 293
  | 14 => .string "InterlockingBoxLaw" 295
  | _ => .string "InterlockingBoxLaw" 297
def sN (i : Nat) : List Nat := match i with
  | 0 => [98, 108, 111, 99, 107, 32, 35]
  | 1 => [112, 111, 105, 110, 116, 32, 42, 62, 42, 44, 42]
  | 2 => [108, 105, 110, 107, 32, 42, 62, 42]
  | 3 => [116, 114, 97, 105, 110, 32, 42, 62, 42]
  | 4 => [115, 101, 116, 32, 42]
  | 5 => [102, 114, 101, 101, 32, 42]
  | 6 => [115, 104, 117, 116, 32, 42]
  | 7 => [111, 112, 101, 110, 32, 42]
  | 8 => [116, 104, 114, 111, 119, 32, 35]
  | 9 => [119, 97, 105, 116]
  | 10 => [119, 97, 105, 116, 32, 42]
  | 11 => [119, 97, 105, 116, 32]
  | 12 => [59, 115, 101, 116, 32]
  | 13 => [59, 102, 114, 101, 101, 32]
  | 14 => [59, 115, 104, 117, 116, 32]
  | _ => [59]
theorem ps_ex : ∀ j, j < 16 → Cond.exactly (sT j) "java/lang/String" ∈ pFL := pinN [1237, 1248, 1263, 1275, 1288, 1297, 1307, 1317, 1327, 1229, 1338, 776, 785, 801, 811, 821] (by decide +kernel)
theorem ps_co : ∀ j, j < 16 → Cond.eq (.field (sT j) "java/lang/String" "coder" "B") (.int 0) ∈ pFL := pinN [1238, 1249, 1264, 1276, 1289, 1298, 1308, 1318, 1328, 1230, 1339, 777, 786, 802, 812, 822] (by decide +kernel)
theorem ps_ar : ∀ j, j < 16 → Cond.arrayOf (.field (sT j) "java/lang/String" "value" "[B") .byte ∈ pFL := pinN [1239, 1250, 1265, 1277, 1290, 1299, 1309, 1319, 1329, 1231, 1340, 778, 787, 803, 813, 823] (by decide +kernel)
theorem ps_le : ∀ j, j < 16 → Cond.eq (.length (.field (sT j) "java/lang/String" "value" "[B")) (.int (Int32.ofNat (sN j).length)) ∈ pFL := pinN [1240, 1251, 1266, 1278, 1291, 1300, 1310, 1320, 1330, 1232, 1341, 779, 788, 804, 814, 824] (by decide +kernel)
def sK (i : Nat) : Nat := match i with
  | 0 => 1241
  | 1 => 1252
  | 2 => 1267
  | 3 => 1279
  | 4 => 1292
  | 5 => 1301
  | 6 => 1311
  | 7 => 1321
  | 8 => 1331
  | 9 => 1233
  | 10 => 1342
  | 11 => 780
  | 12 => 789
  | 13 => 805
  | 14 => 815
  | _ => 825
theorem ps_e0 : ∀ i, i < 16 → (List.range (sN i).length).map (fun j => Cond.eq (.elem (.field (sT i) "java/lang/String" "value" "[B") (.int (Int32.ofNat j))) (.int (nI ((sN i).getD j 0)))) = (pFL.drop (sK i)).take (sN i).length := by decide +kernel
theorem ps_el : ∀ i, i < 16 → ∀ j, j < (sN i).length → Cond.eq (.elem (.field (sT i) "java/lang/String" "value" "[B") (.int (Int32.ofNat j))) (.int (nI ((sN i).getD j 0))) ∈ pFL := fun i hi => pinD (ps_e0 i hi)
abbrev pAT : Term := .static "InterlockingBox" "COMMANDS" "[LInterlockingBox$Command;"
theorem pA_ar : Cond.arrayOf pAT (.object RX1) ∈ pFL := pin1 222 (by decide +kernel)
theorem pA_le : Cond.eq (.length pAT) (.int (Int32.ofNat 11)) ∈ pFL := pin1 223 (by decide +kernel)
theorem pA_el : ∀ j, j < 11 → Cond.eq (.elem pAT (.int (Int32.ofNat j))) (cmT j) ∈ pFL := pinD (k := 225) (by decide +kernel)
abbrev pST : Term := .static "InterlockingBox$1" "$SwitchMap$InterlockingBox$Command" "[I"
theorem pS_ar : Cond.arrayOf pST .int ∈ pFL := pin1 237 (by decide +kernel)
theorem pS_le : Cond.eq (.length pST) (.int (Int32.ofNat 11)) ∈ pFL := pin1 238 (by decide +kernel)
theorem pS_el : ∀ j, j < 11 → Cond.eq (.elem pST (.int (Int32.ofNat j))) (.int (nI (if j = 10 then 0 else j + 1))) ∈ pFL := pinD (k := 239) (by decide +kernel)
abbrev pTT : Term := .static "java/lang/Integer" "DigitTens" "[B"
theorem pT_ar : Cond.arrayOf pTT .byte ∈ pFL := pin1 118 (by decide +kernel)
theorem pT_le : Cond.eq (.length pTT) (.int (Int32.ofNat 100)) ∈ pFL := pin1 119 (by decide +kernel)
theorem pT_el : ∀ j, j < 100 → Cond.eq (.elem pTT (.int (Int32.ofNat j))) (.int (nI (48 + j / 10))) ∈ pFL := pinD (k := 120) (by decide +kernel)
abbrev pOT : Term := .static "java/lang/Integer" "DigitOnes" "[B"
theorem pO_ar : Cond.arrayOf pOT .byte ∈ pFL := pin1 15 (by decide +kernel)
theorem pO_le : Cond.eq (.length pOT) (.int (Int32.ofNat 100)) ∈ pFL := pin1 16 (by decide +kernel)
theorem pO_el : ∀ j, j < 100 → Cond.eq (.elem pOT (.int (Int32.ofNat j))) (.int (nI (48 + j % 10))) ∈ pFL := pinD (k := 17) (by decide +kernel)
theorem pCS : Cond.eq (.static "java/lang/String" "COMPACT_STRINGS" "Z") (.int 1) ∈ pFL := pin1 7 (by decide +kernel)
theorem pSI : Cond.isRef (.static "jdk/internal/util/Preconditions" "SIOOBE_FORMATTER" "Ljava/util/function/BiFunction;") ∈ pFL := pin1 10 (by decide +kernel)
theorem pUS : Cond.isRef (.static "java/lang/Throwable" "UNASSIGNED_STACK" "[Ljava/lang/StackTraceElement;") ∈ pFL := pin1 8 (by decide +kernel)
theorem pSS : Cond.isRef (.static "java/lang/Throwable" "SUPPRESSED_SENTINEL" "Ljava/util/List;") ∈ pFL := pin1 9 (by decide +kernel)
theorem pm_ex : ∀ q ∈ mgl, Cond.exactly (.string q.1 q.2.1) "java/lang/String" ∈ pFL := pinM [489, 506, 527, 544, 574, 608, 632, 668, 694, 728, 755, 826, 856, 873, 893, 940, 957, 984, 1102, 1136, 1157, 1180, 1207] (by decide +kernel)
theorem pm_st : ∀ q ∈ mgl, Cond.stringRef q.1 q.2.1 q.2.2 ∈ lw_tbl := pitL [478, 527, 550, 593, 632, 640, 648, 719, 729, 745, 761, 1192, 1237, 1282, 1307, 1347, 1357, 1386, 1510, 1643, 1653, 1677, 1685] (by decide +kernel)
theorem pl_st : ∀ q ∈ stl, Cond.stringRef q.1 q.2.1 q.2.2.1 ∈ lw_tbl := pitL [944, 1086, 1150, 1151, 1152] (by decide +kernel)
theorem pn_f : ∀ q ∈ nfl, Cond.fieldLinkNest q.1 q.2.1 q.2.2.1 q.2.2.2.1 q.2.2.2.2.1 q.2.2.2.2.2 ∈ lw_tbl := pitL [59, 153, 116, 120, 127, 164, 112, 131, 161, 167, 158, 248, 254, 252, 199, 147, 160, 166, 122, 125, 163, 155, 58, 61, 63, 68, 65, 152, 149, 114, 118, 146, 111, 129, 157, 1208, 1724, 115, 119, 126, 130, 110, 123, 66] (by decide +kernel)
theorem pn_m : ∀ q ∈ nml, Cond.methodLinkNest q.1 q.2.1 q.2.2.1 q.2.2.2 ∈ lw_tbl := pitL [209, 1599, 538, 1542, 51, 105, 486, 860] (by decide +kernel)
theorem pn_c : ∀ q ∈ cal, Cond.castable q.1 q.2 ∈ lw_tbl := pitL [1636, 433, 1703, 722, 754, 471, 1704, 738, 520] (by decide +kernel)
theorem pn_n : ∀ q ∈ ncl, Cond.not (.castable q.1 q.2) ∈ pFL := pinM [383, 400, 349, 417, 366, 430, 396, 345, 413, 361, 432, 380, 347, 414, 363, 428, 377, 394, 411, 360, 431, 379, 397, 346, 362, 429, 378, 395, 344, 412] (by decide +kernel)
theorem pn_d : ∀ y ∈ dcl, Cond.declares y ∈ lw_tbl := pitL [1254, 438, 439, 434, 435, 436, 437, 440, 441] (by decide +kernel)
theorem pn_o : ∀ C ∈ [RX7, RX8, RX1], Cond.arrayOver (.object C) ∈ lw_tbl := pitL [194, 103, 242] (by decide +kernel)
theorem pn_a : Cond.arrayOver (.array .int) ∈ lw_tbl := pit1 56 (by decide +kernel)
theorem pn_p : ∀ t ∈ [FieldType.int, .long, .byte, .char], Cond.arrayClass t ∈ lw_tbl := pitL [101, 1690, 301, 268] (by decide +kernel)
def sst : List (String × String × String) := [("InterlockingBox", "COMMANDS", "[LInterlockingBox$Command;"), ("InterlockingBox$1", "$SwitchMap$InterlockingBox$Command", "[I"), ("InterlockingBox$Command", "WAIT", "LInterlockingBox$Command;"), ("java/lang/String", "COMPACT_STRINGS", "Z"), ("java/lang/Integer", "DigitTens", "[B"), ("java/lang/Integer", "DigitOnes", "[B"), ("jdk/internal/util/Preconditions", "SIOOBE_FORMATTER", "Ljava/util/function/BiFunction;"), ("java/lang/Throwable", "UNASSIGNED_STACK", "[Ljava/lang/StackTraceElement;"), ("java/lang/Throwable", "SUPPRESSED_SENTINEL", "Ljava/util/List;")]
theorem pz_l : ∀ q ∈ sst, Cond.laysStatic q.1 q.2.1 q.2.2 ∈ lw_tbl := pitL [1209, 1247, 245, 279, 1077, 1075, 1005, 395, 397] (by decide +kernel)
theorem pz_i : ∀ q ∈ sst, Cond.initialized q.1 ∈ lw_tbl := pitL [1, 31, 9, 12, 27, 27, 29, 14, 14] (by decide +kernel)
theorem pz_c : ∀ q ∈ CL, Cond.instantiable q.1 q.2.2 ∈ lw_tbl := pitL [36, 188, 50, 236, 208, 44, 104, 452, 270] (by decide +kernel)
theorem px_p : ∀ y ∈ xsl, Cond.privateMethod y ∈ lw_tbl := pitL [957, 961, 1028, 1032] (by decide +kernel)
theorem px_i : ∀ y ∈ xsl, Cond.instanceMethod y ∈ lw_tbl := pitL [958, 962, 1029, 1033] (by decide +kernel)
abbrev yASB : MethodName := ⟨"java/lang/AbstractStringBuilder", "isLatin1", "()Z"⟩
theorem px_s : Cond.selects RJ4 yASB yASB ∈ lw_tbl := pit1 990 (by decide +kernel)
