theorem k_103 : Cond.initialized "PaneStreetLaw" ∈ WU := wu 103 (by decide +kernel) (by decide +kernel)
theorem k_1071 : Cond.methodLink "PaneStreetLaw" 145 ⟨"PaneStreetLaw", "law", "(LPaneStreet;[J)I"⟩ ∈ WU := wu 1071 (by decide +kernel) (by decide +kernel)
theorem k_1072 : Cond.static ⟨"PaneStreetLaw", "law", "(LPaneStreet;[J)I"⟩ ∈ WU := wu 1072 (by decide +kernel) (by decide +kernel)
theorem k_1073 : Cond.codeWith ⟨"PaneStreetLaw", "law", "(LPaneStreet;[J)I"⟩ method_4_code 3 (some FieldType.int) [(0, 8, 11, 13)] ∈ WU := wu 1073 (by decide +kernel) (by decide +kernel)
theorem k_1153 : Cond.methodLink "PaneStreetLaw" 152 ⟨"PaneStreetLaw", "pane", "(LPaneStreet;II[J)I"⟩ ∈ WU := wu 1153 (by decide +kernel) (by decide +kernel)
theorem k_1154 : Cond.static ⟨"PaneStreetLaw", "pane", "(LPaneStreet;II[J)I"⟩ ∈ WU := wu 1154 (by decide +kernel) (by decide +kernel)
theorem k_1155 : Cond.codeWith ⟨"PaneStreetLaw", "pane", "(LPaneStreet;II[J)I"⟩ method_5_code 5 (some FieldType.int) [(0, 10, 13, 24), (0, 10, 17, 26)] ∈ WU := wu 1155 (by decide +kernel) (by decide +kernel)
theorem k_1207 : Cond.methodLink "PaneStreetLaw" 156 ⟨"PaneStreetLaw", "walker", "(LPaneStreet;II[J)I"⟩ ∈ WU := wu 1207 (by decide +kernel) (by decide +kernel)
theorem k_1208 : Cond.static ⟨"PaneStreetLaw", "walker", "(LPaneStreet;II[J)I"⟩ ∈ WU := wu 1208 (by decide +kernel) (by decide +kernel)
theorem k_1209 : Cond.codeWith ⟨"PaneStreetLaw", "walker", "(LPaneStreet;II[J)I"⟩ method_6_code 5 (some FieldType.int) [(0, 10, 13, 24), (0, 10, 17, 26)] ∈ WU := wu 1209 (by decide +kernel) (by decide +kernel)
theorem k_1248 : Cond.methodLink "PaneStreetLaw" 159 ⟨"PaneStreetLaw", "likes", "(LPaneStreet;II[J)I"⟩ ∈ WU := wu 1248 (by decide +kernel) (by decide +kernel)
theorem k_1249 : Cond.static ⟨"PaneStreetLaw", "likes", "(LPaneStreet;II[J)I"⟩ ∈ WU := wu 1249 (by decide +kernel) (by decide +kernel)
theorem k_1250 : Cond.codeWith ⟨"PaneStreetLaw", "likes", "(LPaneStreet;II[J)I"⟩ method_7_code 5 (some FieldType.int) [(0, 10, 13, 24), (0, 10, 17, 13)] ∈ WU := wu 1250 (by decide +kernel) (by decide +kernel)
theorem k_1261 : Cond.methodLink "PaneStreetLaw" 162 ⟨"PaneStreetLaw", "will", "(LPaneStreet;II[J)I"⟩ ∈ WU := wu 1261 (by decide +kernel) (by decide +kernel)
theorem k_1262 : Cond.static ⟨"PaneStreetLaw", "will", "(LPaneStreet;II[J)I"⟩ ∈ WU := wu 1262 (by decide +kernel) (by decide +kernel)
theorem k_1263 : Cond.codeWith ⟨"PaneStreetLaw", "will", "(LPaneStreet;II[J)I"⟩ method_8_code 5 (some FieldType.int) [(0, 10, 13, 24)] ∈ WU := wu 1263 (by decide +kernel) (by decide +kernel)
theorem k_1271 : Cond.methodLink "PaneStreetLaw" 165 ⟨"PaneStreetLaw", "lights", "(LPaneStreet;II[J)I"⟩ ∈ WU := wu 1271 (by decide +kernel) (by decide +kernel)
theorem k_1272 : Cond.static ⟨"PaneStreetLaw", "lights", "(LPaneStreet;II[J)I"⟩ ∈ WU := wu 1272 (by decide +kernel) (by decide +kernel)
theorem k_1273 : Cond.codeWith ⟨"PaneStreetLaw", "lights", "(LPaneStreet;II[J)I"⟩ method_9_code 5 (some FieldType.int) [(0, 17, 20, 24)] ∈ WU := wu 1273 (by decide +kernel) (by decide +kernel)
theorem k_1279 : Cond.methodLink "PaneStreetLaw" 168 ⟨"PaneStreetLaw", "isOpen", "(LPaneStreet;II[J)I"⟩ ∈ WU := wu 1279 (by decide +kernel) (by decide +kernel)
theorem k_1280 : Cond.static ⟨"PaneStreetLaw", "isOpen", "(LPaneStreet;II[J)I"⟩ ∈ WU := wu 1280 (by decide +kernel) (by decide +kernel)
theorem k_1281 : Cond.codeWith ⟨"PaneStreetLaw", "isOpen", "(LPaneStreet;II[J)I"⟩ method_10_code 5 (some FieldType.int) [(0, 17, 20, 24), (0, 17, 24, 13)] ∈ WU := wu 1281 (by decide +kernel) (by decide +kernel)
theorem k_1295 : Cond.methodLink "PaneStreetLaw" 171 ⟨"PaneStreetLaw", "hours", "(LPaneStreet;I[J)I"⟩ ∈ WU := wu 1295 (by decide +kernel) (by decide +kernel)
theorem k_1296 : Cond.static ⟨"PaneStreetLaw", "hours", "(LPaneStreet;I[J)I"⟩ ∈ WU := wu 1296 (by decide +kernel) (by decide +kernel)
theorem k_1297 : Cond.codeWith ⟨"PaneStreetLaw", "hours", "(LPaneStreet;I[J)I"⟩ method_11_code 4 (some FieldType.int) [(0, 9, 12, 13)] ∈ WU := wu 1297 (by decide +kernel) (by decide +kernel)
theorem k_1312 : Cond.methodLink "PaneStreetLaw" 175 ⟨"PaneStreetLaw", "heads", "(LPaneStreet;II[J)I"⟩ ∈ WU := wu 1312 (by decide +kernel) (by decide +kernel)
theorem k_1313 : Cond.static ⟨"PaneStreetLaw", "heads", "(LPaneStreet;II[J)I"⟩ ∈ WU := wu 1313 (by decide +kernel) (by decide +kernel)
theorem k_1314 : Cond.codeWith ⟨"PaneStreetLaw", "heads", "(LPaneStreet;II[J)I"⟩ method_12_code 5 (some FieldType.int) [(0, 10, 13, 24)] ∈ WU := wu 1314 (by decide +kernel) (by decide +kernel)
theorem k_1320 : Cond.methodLink "PaneStreetLaw" 178 ⟨"PaneStreetLaw", "strike", "(LPaneStreet;I[J)I"⟩ ∈ WU := wu 1320 (by decide +kernel) (by decide +kernel)
theorem k_1321 : Cond.static ⟨"PaneStreetLaw", "strike", "(LPaneStreet;I[J)I"⟩ ∈ WU := wu 1321 (by decide +kernel) (by decide +kernel)
theorem k_1322 : Cond.codeWith ⟨"PaneStreetLaw", "strike", "(LPaneStreet;I[J)I"⟩ method_13_code 4 (some FieldType.int) [(0, 9, 12, 24), (0, 9, 15, 54)] ∈ WU := wu 1322 (by decide +kernel) (by decide +kernel)
theorem k_1349 : Cond.methodLink "PaneStreetLaw" 181 ⟨"PaneStreetLaw", "snuff", "(LPaneStreet;I[J)I"⟩ ∈ WU := wu 1349 (by decide +kernel) (by decide +kernel)
theorem k_1350 : Cond.static ⟨"PaneStreetLaw", "snuff", "(LPaneStreet;I[J)I"⟩ ∈ WU := wu 1350 (by decide +kernel) (by decide +kernel)
theorem k_1351 : Cond.codeWith ⟨"PaneStreetLaw", "snuff", "(LPaneStreet;I[J)I"⟩ method_14_code 4 (some FieldType.int) [(0, 9, 12, 24), (0, 9, 15, 54)] ∈ WU := wu 1351 (by decide +kernel) (by decide +kernel)
theorem k_1359 : Cond.methodLink "PaneStreetLaw" 184 ⟨"PaneStreetLaw", "oil", "(LPaneStreet;II[J)I"⟩ ∈ WU := wu 1359 (by decide +kernel) (by decide +kernel)
theorem k_1360 : Cond.static ⟨"PaneStreetLaw", "oil", "(LPaneStreet;II[J)I"⟩ ∈ WU := wu 1360 (by decide +kernel) (by decide +kernel)
theorem k_1361 : Cond.codeWith ⟨"PaneStreetLaw", "oil", "(LPaneStreet;II[J)I"⟩ method_15_code 5 (some FieldType.int) [(0, 10, 13, 24), (0, 10, 17, 13)] ∈ WU := wu 1361 (by decide +kernel) (by decide +kernel)
theorem k_1367 : Cond.methodLink "PaneStreetLaw" 187 ⟨"PaneStreetLaw", "taper", "(LPaneStreet;II[J)I"⟩ ∈ WU := wu 1367 (by decide +kernel) (by decide +kernel)
theorem k_1368 : Cond.static ⟨"PaneStreetLaw", "taper", "(LPaneStreet;II[J)I"⟩ ∈ WU := wu 1368 (by decide +kernel) (by decide +kernel)
theorem k_1369 : Cond.codeWith ⟨"PaneStreetLaw", "taper", "(LPaneStreet;II[J)I"⟩ method_16_code 5 (some FieldType.int) [(0, 10, 13, 24), (0, 10, 17, 13)] ∈ WU := wu 1369 (by decide +kernel) (by decide +kernel)
theorem k_1374 : Cond.methodLink "PaneStreetLaw" 190 ⟨"PaneStreetLaw", "like", "(LPaneStreet;III[J)I"⟩ ∈ WU := wu 1374 (by decide +kernel) (by decide +kernel)
theorem k_1375 : Cond.static ⟨"PaneStreetLaw", "like", "(LPaneStreet;III[J)I"⟩ ∈ WU := wu 1375 (by decide +kernel) (by decide +kernel)
theorem k_1376 : Cond.codeWith ⟨"PaneStreetLaw", "like", "(LPaneStreet;III[J)I"⟩ method_17_code 6 (some FieldType.int) [(0, 12, 15, 24), (0, 12, 19, 13)] ∈ WU := wu 1376 (by decide +kernel) (by decide +kernel)
theorem k_1382 : Cond.methodLink "PaneStreetLaw" 194 ⟨"PaneStreetLaw", "way", "(LPaneStreet;IIZ[J)I"⟩ ∈ WU := wu 1382 (by decide +kernel) (by decide +kernel)
theorem k_1383 : Cond.static ⟨"PaneStreetLaw", "way", "(LPaneStreet;IIZ[J)I"⟩ ∈ WU := wu 1383 (by decide +kernel) (by decide +kernel)
theorem k_1384 : Cond.codeWith ⟨"PaneStreetLaw", "way", "(LPaneStreet;IIZ[J)I"⟩ method_18_code 6 (some FieldType.int) [(0, 19, 22, 24), (0, 19, 26, 13)] ∈ WU := wu 1384 (by decide +kernel) (by decide +kernel)
theorem k_1390 : Cond.methodLink "PaneStreetLaw" 198 ⟨"PaneStreetLaw", "far", "(LPaneStreet;II[J)I"⟩ ∈ WU := wu 1390 (by decide +kernel) (by decide +kernel)
theorem k_1391 : Cond.static ⟨"PaneStreetLaw", "far", "(LPaneStreet;II[J)I"⟩ ∈ WU := wu 1391 (by decide +kernel) (by decide +kernel)
theorem k_1392 : Cond.codeWith ⟨"PaneStreetLaw", "far", "(LPaneStreet;II[J)I"⟩ method_19_code 5 (some FieldType.int) [(0, 10, 13, 24)] ∈ WU := wu 1392 (by decide +kernel) (by decide +kernel)
theorem k_1398 : Cond.methodLink "PaneStreetLaw" 213 ⟨"PaneStreetLaw", "round", "(LPaneStreet;IZ[J)I"⟩ ∈ WU := wu 1398 (by decide +kernel) (by decide +kernel)
theorem k_1399 : Cond.static ⟨"PaneStreetLaw", "round", "(LPaneStreet;IZ[J)I"⟩ ∈ WU := wu 1399 (by decide +kernel) (by decide +kernel)
theorem k_1400 : Cond.codeWith ⟨"PaneStreetLaw", "round", "(LPaneStreet;IZ[J)I"⟩ method_20_code 5 (some FieldType.int) [(0, 10, 13, 24), (0, 10, 17, 13)] ∈ WU := wu 1400 (by decide +kernel) (by decide +kernel)
theorem k_1439 : Cond.methodLink "PaneStreetLaw" 229 ⟨"PaneStreetLaw", "closed", "(LPaneStreet;II[J)I"⟩ ∈ WU := wu 1439 (by decide +kernel) (by decide +kernel)
theorem k_1440 : Cond.static ⟨"PaneStreetLaw", "closed", "(LPaneStreet;II[J)I"⟩ ∈ WU := wu 1440 (by decide +kernel) (by decide +kernel)
theorem k_1441 : Cond.codeWith ⟨"PaneStreetLaw", "closed", "(LPaneStreet;II[J)I"⟩ method_21_code 5 (some FieldType.int) [(0, 10, 13, 24)] ∈ WU := wu 1441 (by decide +kernel) (by decide +kernel)
theorem k_1454 : Cond.methodLink "PaneStreetLaw" 236 ⟨"PaneStreetLaw", "whoLit", "(LPaneStreet;[J)I"⟩ ∈ WU := wu 1454 (by decide +kernel) (by decide +kernel)
theorem k_1455 : Cond.static ⟨"PaneStreetLaw", "whoLit", "(LPaneStreet;[J)I"⟩ ∈ WU := wu 1455 (by decide +kernel) (by decide +kernel)
theorem k_1456 : Cond.codeWith ⟨"PaneStreetLaw", "whoLit", "(LPaneStreet;[J)I"⟩ method_22_code 3 (some FieldType.int) [(0, 8, 11, 13)] ∈ WU := wu 1456 (by decide +kernel) (by decide +kernel)
theorem k_1481 : Cond.methodLink "PaneStreetLaw" 239 ⟨"PaneStreetLaw", "ask", "(LPaneStreet;[J)I"⟩ ∈ WU := wu 1481 (by decide +kernel) (by decide +kernel)
theorem k_1482 : Cond.static ⟨"PaneStreetLaw", "ask", "(LPaneStreet;[J)I"⟩ ∈ WU := wu 1482 (by decide +kernel) (by decide +kernel)
theorem k_1483 : Cond.codeWith ⟨"PaneStreetLaw", "ask", "(LPaneStreet;[J)I"⟩ method_23_code 3 (some FieldType.int) [(0, 8, 11, 13)] ∈ WU := wu 1483 (by decide +kernel) (by decide +kernel)
theorem k_1498 : Cond.methodLink "PaneStreetLaw" 242 ⟨"PaneStreetLaw", "ring", "(LPaneStreet;I[J)I"⟩ ∈ WU := wu 1498 (by decide +kernel) (by decide +kernel)
theorem k_1499 : Cond.static ⟨"PaneStreetLaw", "ring", "(LPaneStreet;I[J)I"⟩ ∈ WU := wu 1499 (by decide +kernel) (by decide +kernel)
theorem k_1500 : Cond.codeWith ⟨"PaneStreetLaw", "ring", "(LPaneStreet;I[J)I"⟩ method_24_code 4 (some FieldType.int) [(0, 16, 19, 24)] ∈ WU := wu 1500 (by decide +kernel) (by decide +kernel)
theorem k_1510 : Cond.methodLink "PaneStreetLaw" 249 ⟨"PaneStreetLaw", "pairs", "(LPaneStreet;I[J)I"⟩ ∈ WU := wu 1510 (by decide +kernel) (by decide +kernel)
theorem k_1511 : Cond.static ⟨"PaneStreetLaw", "pairs", "(LPaneStreet;I[J)I"⟩ ∈ WU := wu 1511 (by decide +kernel) (by decide +kernel)
theorem k_1512 : Cond.codeWith ⟨"PaneStreetLaw", "pairs", "(LPaneStreet;I[J)I"⟩ method_25_code 4 (some FieldType.int) [(0, 9, 12, 24)] ∈ WU := wu 1512 (by decide +kernel) (by decide +kernel)
theorem k_1540 : Cond.methodLink "PaneStreetLaw" 252 ⟨"PaneStreetLaw", "learnt", "(LPaneStreet;[J)I"⟩ ∈ WU := wu 1540 (by decide +kernel) (by decide +kernel)
theorem k_1541 : Cond.static ⟨"PaneStreetLaw", "learnt", "(LPaneStreet;[J)I"⟩ ∈ WU := wu 1541 (by decide +kernel) (by decide +kernel)
theorem k_1542 : Cond.codeWith ⟨"PaneStreetLaw", "learnt", "(LPaneStreet;[J)I"⟩ method_26_code 3 (some FieldType.int) [(0, 8, 11, 13)] ∈ WU := wu 1542 (by decide +kernel) (by decide +kernel)
theorem k_1557 : Cond.methodLink "PaneStreetLaw" 255 ⟨"PaneStreetLaw", "share", "(LPaneStreet;II[J)I"⟩ ∈ WU := wu 1557 (by decide +kernel) (by decide +kernel)
theorem k_1558 : Cond.static ⟨"PaneStreetLaw", "share", "(LPaneStreet;II[J)I"⟩ ∈ WU := wu 1558 (by decide +kernel) (by decide +kernel)
theorem k_1559 : Cond.codeWith ⟨"PaneStreetLaw", "share", "(LPaneStreet;II[J)I"⟩ method_27_code 5 (some FieldType.int) [(0, 10, 13, 24), (0, 10, 17, 13)] ∈ WU := wu 1559 (by decide +kernel) (by decide +kernel)
theorem k_1568 : Cond.methodLink "PaneStreetLaw" 258 ⟨"PaneStreetLaw", "rests", "(LPaneStreet;II[J)I"⟩ ∈ WU := wu 1568 (by decide +kernel) (by decide +kernel)
theorem k_1569 : Cond.static ⟨"PaneStreetLaw", "rests", "(LPaneStreet;II[J)I"⟩ ∈ WU := wu 1569 (by decide +kernel) (by decide +kernel)
theorem k_1570 : Cond.codeWith ⟨"PaneStreetLaw", "rests", "(LPaneStreet;II[J)I"⟩ method_28_code 5 (some FieldType.int) [(0, 10, 13, 24), (0, 10, 17, 13)] ∈ WU := wu 1570 (by decide +kernel) (by decide +kernel)
theorem k_1583 : Cond.methodLink "PaneStreetLaw" 261 ⟨"PaneStreetLaw", "odds", "(LPaneStreet;II[J)I"⟩ ∈ WU := wu 1583 (by decide +kernel) (by decide +kernel)
theorem k_1584 : Cond.static ⟨"PaneStreetLaw", "odds", "(LPaneStreet;II[J)I"⟩ ∈ WU := wu 1584 (by decide +kernel) (by decide +kernel)
theorem k_1585 : Cond.codeWith ⟨"PaneStreetLaw", "odds", "(LPaneStreet;II[J)I"⟩ method_29_code 5 (some FieldType.int) [(0, 10, 13, 13)] ∈ WU := wu 1585 (by decide +kernel) (by decide +kernel)
theorem k_1598 : Cond.methodLink "PaneStreetLaw" 288 ⟨"PaneStreetLaw", "ahead", "(LPaneStreet;III[J)I"⟩ ∈ WU := wu 1598 (by decide +kernel) (by decide +kernel)
theorem k_1599 : Cond.static ⟨"PaneStreetLaw", "ahead", "(LPaneStreet;III[J)I"⟩ ∈ WU := wu 1599 (by decide +kernel) (by decide +kernel)
theorem k_1600 : Cond.codeWith ⟨"PaneStreetLaw", "ahead", "(LPaneStreet;III[J)I"⟩ method_30_code 6 (some FieldType.int) [(0, 12, 15, 24), (0, 12, 19, 13), (0, 12, 23, 26)] ∈ WU := wu 1600 (by decide +kernel) (by decide +kernel)
theorem k_1610 : Cond.methodLink "PaneStreetLaw" 291 ⟨"PaneStreetLaw", "trial", "(LPaneStreet;IZ[J)I"⟩ ∈ WU := wu 1610 (by decide +kernel) (by decide +kernel)
theorem k_1611 : Cond.static ⟨"PaneStreetLaw", "trial", "(LPaneStreet;IZ[J)I"⟩ ∈ WU := wu 1611 (by decide +kernel) (by decide +kernel)
theorem k_1612 : Cond.codeWith ⟨"PaneStreetLaw", "trial", "(LPaneStreet;IZ[J)I"⟩ method_31_code 5 (some FieldType.int) [(0, 10, 13, 13)] ∈ WU := wu 1612 (by decide +kernel) (by decide +kernel)
theorem k_1617 : Cond.methodLink "PaneStreetLaw" 294 ⟨"PaneStreetLaw", "span", "(LPaneStreet;IZ[J)I"⟩ ∈ WU := wu 1617 (by decide +kernel) (by decide +kernel)
theorem k_1618 : Cond.static ⟨"PaneStreetLaw", "span", "(LPaneStreet;IZ[J)I"⟩ ∈ WU := wu 1618 (by decide +kernel) (by decide +kernel)
theorem k_1619 : Cond.codeWith ⟨"PaneStreetLaw", "span", "(LPaneStreet;IZ[J)I"⟩ method_32_code 5 (some FieldType.int) [(0, 10, 13, 13)] ∈ WU := wu 1619 (by decide +kernel) (by decide +kernel)
theorem k_1626 : Cond.methodLink "PaneStreetLaw" 297 ⟨"PaneStreetLaw", "led", "(LPaneStreet;IZ[J)I"⟩ ∈ WU := wu 1626 (by decide +kernel) (by decide +kernel)
theorem k_1627 : Cond.static ⟨"PaneStreetLaw", "led", "(LPaneStreet;IZ[J)I"⟩ ∈ WU := wu 1627 (by decide +kernel) (by decide +kernel)
theorem k_1628 : Cond.codeWith ⟨"PaneStreetLaw", "led", "(LPaneStreet;IZ[J)I"⟩ method_33_code 5 (some FieldType.int) [(0, 10, 13, 24)] ∈ WU := wu 1628 (by decide +kernel) (by decide +kernel)
theorem k_1637 : Cond.methodLink "PaneStreetLaw" 300 ⟨"PaneStreetLaw", "log", "(LPaneStreet;II[J)I"⟩ ∈ WU := wu 1637 (by decide +kernel) (by decide +kernel)
theorem k_1638 : Cond.static ⟨"PaneStreetLaw", "log", "(LPaneStreet;II[J)I"⟩ ∈ WU := wu 1638 (by decide +kernel) (by decide +kernel)
theorem k_1639 : Cond.codeWith ⟨"PaneStreetLaw", "log", "(LPaneStreet;II[J)I"⟩ method_34_code 5 (some FieldType.int) [(0, 10, 13, 26)] ∈ WU := wu 1639 (by decide +kernel) (by decide +kernel)
theorem k_1721 : Cond.methodLink "PaneStreetLaw" 142 ⟨"PaneStreetModel", "thrown", "()I"⟩ ∈ WU := wu 1721 (by decide +kernel) (by decide +kernel)
theorem k_1722 : Cond.instanceMethod ⟨"PaneStreetModel", "thrown", "()I"⟩ ∈ WU := wu 1722 (by decide +kernel) (by decide +kernel)
theorem k_1723 : Cond.selects "PaneStreetModel" ⟨"PaneStreetModel", "thrown", "()I"⟩ ⟨"PaneStreetModel", "thrown", "()I"⟩ ∈ WU := wu 1723 (by decide +kernel) (by decide +kernel)
theorem k_1725 : Cond.methodLink "PaneStreetLaw" 131 ⟨"PaneStreetModel", "feed", "(IIIII)I"⟩ ∈ WU := wu 1725 (by decide +kernel) (by decide +kernel)
theorem k_1726 : Cond.instanceMethod ⟨"PaneStreetModel", "feed", "(IIIII)I"⟩ ∈ WU := wu 1726 (by decide +kernel) (by decide +kernel)
theorem k_1727 : Cond.selects "PaneStreetModel" ⟨"PaneStreetModel", "feed", "(IIIII)I"⟩ ⟨"PaneStreetModel", "feed", "(IIIII)I"⟩ ∈ WU := wu 1727 (by decide +kernel) (by decide +kernel)
theorem k_1729 : Cond.methodLink "PaneStreetLaw" 135 ⟨"PaneStreetModel", "end", "(I)Z"⟩ ∈ WU := wu 1729 (by decide +kernel) (by decide +kernel)
theorem k_1730 : Cond.instanceMethod ⟨"PaneStreetModel", "end", "(I)Z"⟩ ∈ WU := wu 1730 (by decide +kernel) (by decide +kernel)
theorem k_1731 : Cond.selects "PaneStreetModel" ⟨"PaneStreetModel", "end", "(I)Z"⟩ ⟨"PaneStreetModel", "end", "(I)Z"⟩ ∈ WU := wu 1731 (by decide +kernel) (by decide +kernel)
theorem k_1736 : Cond.methodLink "PaneStreetLaw" 141 ⟨"PaneStreetModel", "street", "()I"⟩ ∈ WU := wu 1736 (by decide +kernel) (by decide +kernel)
theorem k_1737 : Cond.instanceMethod ⟨"PaneStreetModel", "street", "()I"⟩ ∈ WU := wu 1737 (by decide +kernel) (by decide +kernel)
theorem k_1738 : Cond.selects "PaneStreetModel" ⟨"PaneStreetModel", "street", "()I"⟩ ⟨"PaneStreetModel", "street", "()I"⟩ ∈ WU := wu 1738 (by decide +kernel) (by decide +kernel)
theorem k_1877 : Cond.methodLink "PaneStreetLaw" 147 ⟨"PaneStreetModel", "law", "()I"⟩ ∈ WU := wu 1877 (by decide +kernel) (by decide +kernel)
theorem k_1878 : Cond.instanceMethod ⟨"PaneStreetModel", "law", "()I"⟩ ∈ WU := wu 1878 (by decide +kernel) (by decide +kernel)
theorem k_1879 : Cond.selects "PaneStreetModel" ⟨"PaneStreetModel", "law", "()I"⟩ ⟨"PaneStreetModel", "law", "()I"⟩ ∈ WU := wu 1879 (by decide +kernel) (by decide +kernel)
theorem k_1881 : Cond.methodLink "PaneStreetLaw" 151 ⟨"PaneStreetModel", "fault", "()I"⟩ ∈ WU := wu 1881 (by decide +kernel) (by decide +kernel)
theorem k_1882 : Cond.instanceMethod ⟨"PaneStreetModel", "fault", "()I"⟩ ∈ WU := wu 1882 (by decide +kernel) (by decide +kernel)
theorem k_1883 : Cond.selects "PaneStreetModel" ⟨"PaneStreetModel", "fault", "()I"⟩ ⟨"PaneStreetModel", "fault", "()I"⟩ ∈ WU := wu 1883 (by decide +kernel) (by decide +kernel)
theorem k_1885 : Cond.methodLink "PaneStreetLaw" 155 ⟨"PaneStreetModel", "pane", "(II)I"⟩ ∈ WU := wu 1885 (by decide +kernel) (by decide +kernel)
theorem k_1886 : Cond.instanceMethod ⟨"PaneStreetModel", "pane", "(II)I"⟩ ∈ WU := wu 1886 (by decide +kernel) (by decide +kernel)
theorem k_1887 : Cond.selects "PaneStreetModel" ⟨"PaneStreetModel", "pane", "(II)I"⟩ ⟨"PaneStreetModel", "pane", "(II)I"⟩ ∈ WU := wu 1887 (by decide +kernel) (by decide +kernel)
theorem k_1971 : Cond.methodLink "PaneStreetLaw" 158 ⟨"PaneStreetModel", "walker", "(II)I"⟩ ∈ WU := wu 1971 (by decide +kernel) (by decide +kernel)
theorem k_1972 : Cond.instanceMethod ⟨"PaneStreetModel", "walker", "(II)I"⟩ ∈ WU := wu 1972 (by decide +kernel) (by decide +kernel)
theorem k_1973 : Cond.selects "PaneStreetModel" ⟨"PaneStreetModel", "walker", "(II)I"⟩ ⟨"PaneStreetModel", "walker", "(II)I"⟩ ∈ WU := wu 1973 (by decide +kernel) (by decide +kernel)
theorem k_1996 : Cond.methodLink "PaneStreetLaw" 161 ⟨"PaneStreetModel", "likes", "(II)I"⟩ ∈ WU := wu 1996 (by decide +kernel) (by decide +kernel)
theorem k_1997 : Cond.instanceMethod ⟨"PaneStreetModel", "likes", "(II)I"⟩ ∈ WU := wu 1997 (by decide +kernel) (by decide +kernel)
theorem k_1998 : Cond.selects "PaneStreetModel" ⟨"PaneStreetModel", "likes", "(II)I"⟩ ⟨"PaneStreetModel", "likes", "(II)I"⟩ ∈ WU := wu 1998 (by decide +kernel) (by decide +kernel)
theorem k_2004 : Cond.methodLink "PaneStreetLaw" 164 ⟨"PaneStreetModel", "will", "(II)I"⟩ ∈ WU := wu 2004 (by decide +kernel) (by decide +kernel)
theorem k_2005 : Cond.instanceMethod ⟨"PaneStreetModel", "will", "(II)I"⟩ ∈ WU := wu 2005 (by decide +kernel) (by decide +kernel)
theorem k_2006 : Cond.selects "PaneStreetModel" ⟨"PaneStreetModel", "will", "(II)I"⟩ ⟨"PaneStreetModel", "will", "(II)I"⟩ ∈ WU := wu 2006 (by decide +kernel) (by decide +kernel)
theorem k_2008 : Cond.methodLink "PaneStreetLaw" 167 ⟨"PaneStreetModel", "lights", "(II)Z"⟩ ∈ WU := wu 2008 (by decide +kernel) (by decide +kernel)
theorem k_2009 : Cond.instanceMethod ⟨"PaneStreetModel", "lights", "(II)Z"⟩ ∈ WU := wu 2009 (by decide +kernel) (by decide +kernel)
theorem k_2010 : Cond.selects "PaneStreetModel" ⟨"PaneStreetModel", "lights", "(II)Z"⟩ ⟨"PaneStreetModel", "lights", "(II)Z"⟩ ∈ WU := wu 2010 (by decide +kernel) (by decide +kernel)
theorem k_2012 : Cond.methodLink "PaneStreetLaw" 170 ⟨"PaneStreetModel", "isOpen", "(II)Z"⟩ ∈ WU := wu 2012 (by decide +kernel) (by decide +kernel)
theorem k_2013 : Cond.instanceMethod ⟨"PaneStreetModel", "isOpen", "(II)Z"⟩ ∈ WU := wu 2013 (by decide +kernel) (by decide +kernel)
theorem k_2014 : Cond.selects "PaneStreetModel" ⟨"PaneStreetModel", "isOpen", "(II)Z"⟩ ⟨"PaneStreetModel", "isOpen", "(II)Z"⟩ ∈ WU := wu 2014 (by decide +kernel) (by decide +kernel)
theorem k_2020 : Cond.methodLink "PaneStreetLaw" 174 ⟨"PaneStreetModel", "hours", "(I)I"⟩ ∈ WU := wu 2020 (by decide +kernel) (by decide +kernel)
theorem k_2021 : Cond.instanceMethod ⟨"PaneStreetModel", "hours", "(I)I"⟩ ∈ WU := wu 2021 (by decide +kernel) (by decide +kernel)
theorem k_2022 : Cond.selects "PaneStreetModel" ⟨"PaneStreetModel", "hours", "(I)I"⟩ ⟨"PaneStreetModel", "hours", "(I)I"⟩ ∈ WU := wu 2022 (by decide +kernel) (by decide +kernel)
theorem k_2032 : Cond.methodLink "PaneStreetLaw" 177 ⟨"PaneStreetModel", "heads", "(II)I"⟩ ∈ WU := wu 2032 (by decide +kernel) (by decide +kernel)
theorem k_2033 : Cond.instanceMethod ⟨"PaneStreetModel", "heads", "(II)I"⟩ ∈ WU := wu 2033 (by decide +kernel) (by decide +kernel)
theorem k_2034 : Cond.selects "PaneStreetModel" ⟨"PaneStreetModel", "heads", "(II)I"⟩ ⟨"PaneStreetModel", "heads", "(II)I"⟩ ∈ WU := wu 2034 (by decide +kernel) (by decide +kernel)
theorem k_2040 : Cond.methodLink "PaneStreetLaw" 180 ⟨"PaneStreetModel", "strike", "(I)I"⟩ ∈ WU := wu 2040 (by decide +kernel) (by decide +kernel)
theorem k_2041 : Cond.instanceMethod ⟨"PaneStreetModel", "strike", "(I)I"⟩ ∈ WU := wu 2041 (by decide +kernel) (by decide +kernel)
theorem k_2042 : Cond.selects "PaneStreetModel" ⟨"PaneStreetModel", "strike", "(I)I"⟩ ⟨"PaneStreetModel", "strike", "(I)I"⟩ ∈ WU := wu 2042 (by decide +kernel) (by decide +kernel)
theorem k_2044 : Cond.methodLink "PaneStreetLaw" 183 ⟨"PaneStreetModel", "snuff", "(I)I"⟩ ∈ WU := wu 2044 (by decide +kernel) (by decide +kernel)
theorem k_2045 : Cond.instanceMethod ⟨"PaneStreetModel", "snuff", "(I)I"⟩ ∈ WU := wu 2045 (by decide +kernel) (by decide +kernel)
theorem k_2046 : Cond.selects "PaneStreetModel" ⟨"PaneStreetModel", "snuff", "(I)I"⟩ ⟨"PaneStreetModel", "snuff", "(I)I"⟩ ∈ WU := wu 2046 (by decide +kernel) (by decide +kernel)
theorem k_2048 : Cond.methodLink "PaneStreetLaw" 186 ⟨"PaneStreetModel", "oil", "(II)I"⟩ ∈ WU := wu 2048 (by decide +kernel) (by decide +kernel)
theorem k_2049 : Cond.instanceMethod ⟨"PaneStreetModel", "oil", "(II)I"⟩ ∈ WU := wu 2049 (by decide +kernel) (by decide +kernel)
theorem k_2050 : Cond.selects "PaneStreetModel" ⟨"PaneStreetModel", "oil", "(II)I"⟩ ⟨"PaneStreetModel", "oil", "(II)I"⟩ ∈ WU := wu 2050 (by decide +kernel) (by decide +kernel)
theorem k_2052 : Cond.methodLink "PaneStreetLaw" 189 ⟨"PaneStreetModel", "taper", "(II)I"⟩ ∈ WU := wu 2052 (by decide +kernel) (by decide +kernel)
theorem k_2053 : Cond.instanceMethod ⟨"PaneStreetModel", "taper", "(II)I"⟩ ∈ WU := wu 2053 (by decide +kernel) (by decide +kernel)
theorem k_2054 : Cond.selects "PaneStreetModel" ⟨"PaneStreetModel", "taper", "(II)I"⟩ ⟨"PaneStreetModel", "taper", "(II)I"⟩ ∈ WU := wu 2054 (by decide +kernel) (by decide +kernel)
theorem k_2056 : Cond.methodLink "PaneStreetLaw" 193 ⟨"PaneStreetModel", "like", "(III)I"⟩ ∈ WU := wu 2056 (by decide +kernel) (by decide +kernel)
theorem k_2057 : Cond.instanceMethod ⟨"PaneStreetModel", "like", "(III)I"⟩ ∈ WU := wu 2057 (by decide +kernel) (by decide +kernel)
theorem k_2058 : Cond.selects "PaneStreetModel" ⟨"PaneStreetModel", "like", "(III)I"⟩ ⟨"PaneStreetModel", "like", "(III)I"⟩ ∈ WU := wu 2058 (by decide +kernel) (by decide +kernel)
theorem k_2060 : Cond.methodLink "PaneStreetLaw" 197 ⟨"PaneStreetModel", "way", "(IIZ)Z"⟩ ∈ WU := wu 2060 (by decide +kernel) (by decide +kernel)
theorem k_2061 : Cond.instanceMethod ⟨"PaneStreetModel", "way", "(IIZ)Z"⟩ ∈ WU := wu 2061 (by decide +kernel) (by decide +kernel)
theorem k_2062 : Cond.selects "PaneStreetModel" ⟨"PaneStreetModel", "way", "(IIZ)Z"⟩ ⟨"PaneStreetModel", "way", "(IIZ)Z"⟩ ∈ WU := wu 2062 (by decide +kernel) (by decide +kernel)
theorem k_2064 : Cond.methodLink "PaneStreetLaw" 200 ⟨"PaneStreetModel", "far", "(II)I"⟩ ∈ WU := wu 2064 (by decide +kernel) (by decide +kernel)
theorem k_2065 : Cond.instanceMethod ⟨"PaneStreetModel", "far", "(II)I"⟩ ∈ WU := wu 2065 (by decide +kernel) (by decide +kernel)
theorem k_2066 : Cond.selects "PaneStreetModel" ⟨"PaneStreetModel", "far", "(II)I"⟩ ⟨"PaneStreetModel", "far", "(II)I"⟩ ∈ WU := wu 2066 (by decide +kernel) (by decide +kernel)
theorem k_2068 : Cond.methodLink "PaneStreetLaw" 204 ⟨"PaneStreetModel", "out", "()I"⟩ ∈ WU := wu 2068 (by decide +kernel) (by decide +kernel)
theorem k_2069 : Cond.instanceMethod ⟨"PaneStreetModel", "out", "()I"⟩ ∈ WU := wu 2069 (by decide +kernel) (by decide +kernel)
theorem k_2070 : Cond.selects "PaneStreetModel" ⟨"PaneStreetModel", "out", "()I"⟩ ⟨"PaneStreetModel", "out", "()I"⟩ ∈ WU := wu 2070 (by decide +kernel) (by decide +kernel)
theorem k_2076 : Cond.methodLink "PaneStreetLaw" 208 ⟨"PaneStreetModel", "spoon", "()I"⟩ ∈ WU := wu 2076 (by decide +kernel) (by decide +kernel)
theorem k_2077 : Cond.instanceMethod ⟨"PaneStreetModel", "spoon", "()I"⟩ ∈ WU := wu 2077 (by decide +kernel) (by decide +kernel)
theorem k_2078 : Cond.selects "PaneStreetModel" ⟨"PaneStreetModel", "spoon", "()I"⟩ ⟨"PaneStreetModel", "spoon", "()I"⟩ ∈ WU := wu 2078 (by decide +kernel) (by decide +kernel)
theorem k_2080 : Cond.methodLink "PaneStreetLaw" 212 ⟨"PaneStreetModel", "never", "()I"⟩ ∈ WU := wu 2080 (by decide +kernel) (by decide +kernel)
theorem k_2081 : Cond.instanceMethod ⟨"PaneStreetModel", "never", "()I"⟩ ∈ WU := wu 2081 (by decide +kernel) (by decide +kernel)
theorem k_2082 : Cond.selects "PaneStreetModel" ⟨"PaneStreetModel", "never", "()I"⟩ ⟨"PaneStreetModel", "never", "()I"⟩ ∈ WU := wu 2082 (by decide +kernel) (by decide +kernel)
theorem k_2084 : Cond.methodLink "PaneStreetLaw" 216 ⟨"PaneStreetModel", "round", "(IZ)I"⟩ ∈ WU := wu 2084 (by decide +kernel) (by decide +kernel)
theorem k_2085 : Cond.instanceMethod ⟨"PaneStreetModel", "round", "(IZ)I"⟩ ∈ WU := wu 2085 (by decide +kernel) (by decide +kernel)
theorem k_2086 : Cond.selects "PaneStreetModel" ⟨"PaneStreetModel", "round", "(IZ)I"⟩ ⟨"PaneStreetModel", "round", "(IZ)I"⟩ ∈ WU := wu 2086 (by decide +kernel) (by decide +kernel)
theorem k_2100 : Cond.methodLink "PaneStreetLaw" 220 ⟨"PaneStreetModel", "beats", "()I"⟩ ∈ WU := wu 2100 (by decide +kernel) (by decide +kernel)
theorem k_2101 : Cond.instanceMethod ⟨"PaneStreetModel", "beats", "()I"⟩ ∈ WU := wu 2101 (by decide +kernel) (by decide +kernel)
theorem k_2102 : Cond.selects "PaneStreetModel" ⟨"PaneStreetModel", "beats", "()I"⟩ ⟨"PaneStreetModel", "beats", "()I"⟩ ∈ WU := wu 2102 (by decide +kernel) (by decide +kernel)
theorem k_2111 : Cond.methodLink "PaneStreetLaw" 224 ⟨"PaneStreetModel", "parts", "()I"⟩ ∈ WU := wu 2111 (by decide +kernel) (by decide +kernel)
theorem k_2112 : Cond.instanceMethod ⟨"PaneStreetModel", "parts", "()I"⟩ ∈ WU := wu 2112 (by decide +kernel) (by decide +kernel)
theorem k_2113 : Cond.selects "PaneStreetModel" ⟨"PaneStreetModel", "parts", "()I"⟩ ⟨"PaneStreetModel", "parts", "()I"⟩ ∈ WU := wu 2113 (by decide +kernel) (by decide +kernel)
theorem k_2119 : Cond.methodLink "PaneStreetLaw" 228 ⟨"PaneStreetModel", "bend", "()I"⟩ ∈ WU := wu 2119 (by decide +kernel) (by decide +kernel)
theorem k_2120 : Cond.instanceMethod ⟨"PaneStreetModel", "bend", "()I"⟩ ∈ WU := wu 2120 (by decide +kernel) (by decide +kernel)
theorem k_2121 : Cond.selects "PaneStreetModel" ⟨"PaneStreetModel", "bend", "()I"⟩ ⟨"PaneStreetModel", "bend", "()I"⟩ ∈ WU := wu 2121 (by decide +kernel) (by decide +kernel)
theorem k_2123 : Cond.methodLink "PaneStreetLaw" 231 ⟨"PaneStreetModel", "closed", "(II)I"⟩ ∈ WU := wu 2123 (by decide +kernel) (by decide +kernel)
theorem k_2124 : Cond.instanceMethod ⟨"PaneStreetModel", "closed", "(II)I"⟩ ∈ WU := wu 2124 (by decide +kernel) (by decide +kernel)
theorem k_2125 : Cond.selects "PaneStreetModel" ⟨"PaneStreetModel", "closed", "(II)I"⟩ ⟨"PaneStreetModel", "closed", "(II)I"⟩ ∈ WU := wu 2125 (by decide +kernel) (by decide +kernel)
theorem k_2131 : Cond.methodLink "PaneStreetLaw" 235 ⟨"PaneStreetModel", "madeUp", "()I"⟩ ∈ WU := wu 2131 (by decide +kernel) (by decide +kernel)
theorem k_2132 : Cond.instanceMethod ⟨"PaneStreetModel", "madeUp", "()I"⟩ ∈ WU := wu 2132 (by decide +kernel) (by decide +kernel)
theorem k_2133 : Cond.selects "PaneStreetModel" ⟨"PaneStreetModel", "madeUp", "()I"⟩ ⟨"PaneStreetModel", "madeUp", "()I"⟩ ∈ WU := wu 2133 (by decide +kernel) (by decide +kernel)
theorem k_2139 : Cond.methodLink "PaneStreetLaw" 238 ⟨"PaneStreetModel", "whoLit", "()I"⟩ ∈ WU := wu 2139 (by decide +kernel) (by decide +kernel)
theorem k_2140 : Cond.instanceMethod ⟨"PaneStreetModel", "whoLit", "()I"⟩ ∈ WU := wu 2140 (by decide +kernel) (by decide +kernel)
theorem k_2141 : Cond.selects "PaneStreetModel" ⟨"PaneStreetModel", "whoLit", "()I"⟩ ⟨"PaneStreetModel", "whoLit", "()I"⟩ ∈ WU := wu 2141 (by decide +kernel) (by decide +kernel)
theorem k_2151 : Cond.methodLink "PaneStreetLaw" 241 ⟨"PaneStreetModel", "ask", "()I"⟩ ∈ WU := wu 2151 (by decide +kernel) (by decide +kernel)
theorem k_2152 : Cond.instanceMethod ⟨"PaneStreetModel", "ask", "()I"⟩ ∈ WU := wu 2152 (by decide +kernel) (by decide +kernel)
theorem k_2153 : Cond.selects "PaneStreetModel" ⟨"PaneStreetModel", "ask", "()I"⟩ ⟨"PaneStreetModel", "ask", "()I"⟩ ∈ WU := wu 2153 (by decide +kernel) (by decide +kernel)
theorem k_2159 : Cond.methodLink "PaneStreetLaw" 244 ⟨"PaneStreetModel", "ring", "(I)Z"⟩ ∈ WU := wu 2159 (by decide +kernel) (by decide +kernel)
theorem k_2160 : Cond.instanceMethod ⟨"PaneStreetModel", "ring", "(I)Z"⟩ ∈ WU := wu 2160 (by decide +kernel) (by decide +kernel)
theorem k_2161 : Cond.selects "PaneStreetModel" ⟨"PaneStreetModel", "ring", "(I)Z"⟩ ⟨"PaneStreetModel", "ring", "(I)Z"⟩ ∈ WU := wu 2161 (by decide +kernel) (by decide +kernel)
theorem k_2167 : Cond.methodLink "PaneStreetLaw" 248 ⟨"PaneStreetModel", "sides", "()I"⟩ ∈ WU := wu 2167 (by decide +kernel) (by decide +kernel)
theorem k_2168 : Cond.instanceMethod ⟨"PaneStreetModel", "sides", "()I"⟩ ∈ WU := wu 2168 (by decide +kernel) (by decide +kernel)
theorem k_2169 : Cond.selects "PaneStreetModel" ⟨"PaneStreetModel", "sides", "()I"⟩ ⟨"PaneStreetModel", "sides", "()I"⟩ ∈ WU := wu 2169 (by decide +kernel) (by decide +kernel)
theorem k_2175 : Cond.methodLink "PaneStreetLaw" 251 ⟨"PaneStreetModel", "pairs", "(I)I"⟩ ∈ WU := wu 2175 (by decide +kernel) (by decide +kernel)
theorem k_2176 : Cond.instanceMethod ⟨"PaneStreetModel", "pairs", "(I)I"⟩ ∈ WU := wu 2176 (by decide +kernel) (by decide +kernel)
theorem k_2177 : Cond.selects "PaneStreetModel" ⟨"PaneStreetModel", "pairs", "(I)I"⟩ ⟨"PaneStreetModel", "pairs", "(I)I"⟩ ∈ WU := wu 2177 (by decide +kernel) (by decide +kernel)
theorem k_2190 : Cond.methodLink "PaneStreetLaw" 254 ⟨"PaneStreetModel", "learnt", "()I"⟩ ∈ WU := wu 2190 (by decide +kernel) (by decide +kernel)
theorem k_2191 : Cond.instanceMethod ⟨"PaneStreetModel", "learnt", "()I"⟩ ∈ WU := wu 2191 (by decide +kernel) (by decide +kernel)
theorem k_2192 : Cond.selects "PaneStreetModel" ⟨"PaneStreetModel", "learnt", "()I"⟩ ⟨"PaneStreetModel", "learnt", "()I"⟩ ∈ WU := wu 2192 (by decide +kernel) (by decide +kernel)
theorem k_2198 : Cond.methodLink "PaneStreetLaw" 257 ⟨"PaneStreetModel", "share", "(II)I"⟩ ∈ WU := wu 2198 (by decide +kernel) (by decide +kernel)
theorem k_2199 : Cond.instanceMethod ⟨"PaneStreetModel", "share", "(II)I"⟩ ∈ WU := wu 2199 (by decide +kernel) (by decide +kernel)
theorem k_2200 : Cond.selects "PaneStreetModel" ⟨"PaneStreetModel", "share", "(II)I"⟩ ⟨"PaneStreetModel", "share", "(II)I"⟩ ∈ WU := wu 2200 (by decide +kernel) (by decide +kernel)
theorem k_2202 : Cond.methodLink "PaneStreetLaw" 260 ⟨"PaneStreetModel", "rests", "(II)I"⟩ ∈ WU := wu 2202 (by decide +kernel) (by decide +kernel)
theorem k_2203 : Cond.instanceMethod ⟨"PaneStreetModel", "rests", "(II)I"⟩ ∈ WU := wu 2203 (by decide +kernel) (by decide +kernel)
theorem k_2204 : Cond.selects "PaneStreetModel" ⟨"PaneStreetModel", "rests", "(II)I"⟩ ⟨"PaneStreetModel", "rests", "(II)I"⟩ ∈ WU := wu 2204 (by decide +kernel) (by decide +kernel)
theorem k_2210 : Cond.methodLink "PaneStreetLaw" 263 ⟨"PaneStreetModel", "odds", "(II)I"⟩ ∈ WU := wu 2210 (by decide +kernel) (by decide +kernel)
theorem k_2211 : Cond.instanceMethod ⟨"PaneStreetModel", "odds", "(II)I"⟩ ∈ WU := wu 2211 (by decide +kernel) (by decide +kernel)
theorem k_2212 : Cond.selects "PaneStreetModel" ⟨"PaneStreetModel", "odds", "(II)I"⟩ ⟨"PaneStreetModel", "odds", "(II)I"⟩ ∈ WU := wu 2212 (by decide +kernel) (by decide +kernel)
theorem k_2216 : Cond.methodLink "PaneStreetLaw" 267 ⟨"PaneStreetModel", "bright", "()I"⟩ ∈ WU := wu 2216 (by decide +kernel) (by decide +kernel)
theorem k_2217 : Cond.instanceMethod ⟨"PaneStreetModel", "bright", "()I"⟩ ∈ WU := wu 2217 (by decide +kernel) (by decide +kernel)
theorem k_2218 : Cond.selects "PaneStreetModel" ⟨"PaneStreetModel", "bright", "()I"⟩ ⟨"PaneStreetModel", "bright", "()I"⟩ ∈ WU := wu 2218 (by decide +kernel) (by decide +kernel)
theorem k_2220 : Cond.methodLink "PaneStreetLaw" 271 ⟨"PaneStreetModel", "gloom", "()I"⟩ ∈ WU := wu 2220 (by decide +kernel) (by decide +kernel)
theorem k_2221 : Cond.instanceMethod ⟨"PaneStreetModel", "gloom", "()I"⟩ ∈ WU := wu 2221 (by decide +kernel) (by decide +kernel)
theorem k_2222 : Cond.selects "PaneStreetModel" ⟨"PaneStreetModel", "gloom", "()I"⟩ ⟨"PaneStreetModel", "gloom", "()I"⟩ ∈ WU := wu 2222 (by decide +kernel) (by decide +kernel)
theorem k_2224 : Cond.methodLink "PaneStreetLaw" 275 ⟨"PaneStreetModel", "lamplighter", "()I"⟩ ∈ WU := wu 2224 (by decide +kernel) (by decide +kernel)
theorem k_2225 : Cond.instanceMethod ⟨"PaneStreetModel", "lamplighter", "()I"⟩ ∈ WU := wu 2225 (by decide +kernel) (by decide +kernel)
theorem k_2226 : Cond.selects "PaneStreetModel" ⟨"PaneStreetModel", "lamplighter", "()I"⟩ ⟨"PaneStreetModel", "lamplighter", "()I"⟩ ∈ WU := wu 2226 (by decide +kernel) (by decide +kernel)
theorem k_2228 : Cond.methodLink "PaneStreetLaw" 279 ⟨"PaneStreetModel", "spent", "()I"⟩ ∈ WU := wu 2228 (by decide +kernel) (by decide +kernel)
theorem k_2229 : Cond.instanceMethod ⟨"PaneStreetModel", "spent", "()I"⟩ ∈ WU := wu 2229 (by decide +kernel) (by decide +kernel)
theorem k_2230 : Cond.selects "PaneStreetModel" ⟨"PaneStreetModel", "spent", "()I"⟩ ⟨"PaneStreetModel", "spent", "()I"⟩ ∈ WU := wu 2230 (by decide +kernel) (by decide +kernel)
theorem k_2232 : Cond.methodLink "PaneStreetLaw" 283 ⟨"PaneStreetModel", "crowd", "()I"⟩ ∈ WU := wu 2232 (by decide +kernel) (by decide +kernel)
theorem k_2233 : Cond.instanceMethod ⟨"PaneStreetModel", "crowd", "()I"⟩ ∈ WU := wu 2233 (by decide +kernel) (by decide +kernel)
theorem k_2234 : Cond.selects "PaneStreetModel" ⟨"PaneStreetModel", "crowd", "()I"⟩ ⟨"PaneStreetModel", "crowd", "()I"⟩ ∈ WU := wu 2234 (by decide +kernel) (by decide +kernel)
theorem k_2240 : Cond.methodLink "PaneStreetLaw" 287 ⟨"PaneStreetModel", "alike", "()I"⟩ ∈ WU := wu 2240 (by decide +kernel) (by decide +kernel)
theorem k_2241 : Cond.instanceMethod ⟨"PaneStreetModel", "alike", "()I"⟩ ∈ WU := wu 2241 (by decide +kernel) (by decide +kernel)
theorem k_2242 : Cond.selects "PaneStreetModel" ⟨"PaneStreetModel", "alike", "()I"⟩ ⟨"PaneStreetModel", "alike", "()I"⟩ ∈ WU := wu 2242 (by decide +kernel) (by decide +kernel)
theorem k_2244 : Cond.methodLink "PaneStreetLaw" 290 ⟨"PaneStreetModel", "ahead", "(III)I"⟩ ∈ WU := wu 2244 (by decide +kernel) (by decide +kernel)
theorem k_2245 : Cond.instanceMethod ⟨"PaneStreetModel", "ahead", "(III)I"⟩ ∈ WU := wu 2245 (by decide +kernel) (by decide +kernel)
theorem k_2246 : Cond.selects "PaneStreetModel" ⟨"PaneStreetModel", "ahead", "(III)I"⟩ ⟨"PaneStreetModel", "ahead", "(III)I"⟩ ∈ WU := wu 2246 (by decide +kernel) (by decide +kernel)
theorem k_2248 : Cond.methodLink "PaneStreetLaw" 293 ⟨"PaneStreetModel", "trial", "(IZ)I"⟩ ∈ WU := wu 2248 (by decide +kernel) (by decide +kernel)
theorem k_2249 : Cond.instanceMethod ⟨"PaneStreetModel", "trial", "(IZ)I"⟩ ∈ WU := wu 2249 (by decide +kernel) (by decide +kernel)
theorem k_2250 : Cond.selects "PaneStreetModel" ⟨"PaneStreetModel", "trial", "(IZ)I"⟩ ⟨"PaneStreetModel", "trial", "(IZ)I"⟩ ∈ WU := wu 2250 (by decide +kernel) (by decide +kernel)
theorem k_2256 : Cond.methodLink "PaneStreetLaw" 296 ⟨"PaneStreetModel", "span", "(IZ)I"⟩ ∈ WU := wu 2256 (by decide +kernel) (by decide +kernel)
theorem k_2257 : Cond.instanceMethod ⟨"PaneStreetModel", "span", "(IZ)I"⟩ ∈ WU := wu 2257 (by decide +kernel) (by decide +kernel)
theorem k_2258 : Cond.selects "PaneStreetModel" ⟨"PaneStreetModel", "span", "(IZ)I"⟩ ⟨"PaneStreetModel", "span", "(IZ)I"⟩ ∈ WU := wu 2258 (by decide +kernel) (by decide +kernel)
theorem k_2260 : Cond.methodLink "PaneStreetLaw" 299 ⟨"PaneStreetModel", "led", "(IZ)I"⟩ ∈ WU := wu 2260 (by decide +kernel) (by decide +kernel)
theorem k_2261 : Cond.instanceMethod ⟨"PaneStreetModel", "led", "(IZ)I"⟩ ∈ WU := wu 2261 (by decide +kernel) (by decide +kernel)
theorem k_2262 : Cond.selects "PaneStreetModel" ⟨"PaneStreetModel", "led", "(IZ)I"⟩ ⟨"PaneStreetModel", "led", "(IZ)I"⟩ ∈ WU := wu 2262 (by decide +kernel) (by decide +kernel)
theorem k_2268 : Cond.methodLink "PaneStreetLaw" 302 ⟨"PaneStreetModel", "log", "(II)I"⟩ ∈ WU := wu 2268 (by decide +kernel) (by decide +kernel)
theorem k_2269 : Cond.instanceMethod ⟨"PaneStreetModel", "log", "(II)I"⟩ ∈ WU := wu 2269 (by decide +kernel) (by decide +kernel)
theorem k_2270 : Cond.selects "PaneStreetModel" ⟨"PaneStreetModel", "log", "(II)I"⟩ ⟨"PaneStreetModel", "log", "(II)I"⟩ ∈ WU := wu 2270 (by decide +kernel) (by decide +kernel)
theorem k_2272 : Cond.methodLink "PaneStreetLaw" 306 ⟨"PaneStreetModel", "seed", "(I)I"⟩ ∈ WU := wu 2272 (by decide +kernel) (by decide +kernel)
theorem k_2273 : Cond.instanceMethod ⟨"PaneStreetModel", "seed", "(I)I"⟩ ∈ WU := wu 2273 (by decide +kernel) (by decide +kernel)
theorem k_2274 : Cond.selects "PaneStreetModel" ⟨"PaneStreetModel", "seed", "(I)I"⟩ ⟨"PaneStreetModel", "seed", "(I)I"⟩ ∈ WU := wu 2274 (by decide +kernel) (by decide +kernel)
theorem k_2276 : Cond.methodLink "PaneStreetLaw" 311 ⟨"PaneStreetModel", "undo", "()Z"⟩ ∈ WU := wu 2276 (by decide +kernel) (by decide +kernel)
theorem k_2277 : Cond.instanceMethod ⟨"PaneStreetModel", "undo", "()Z"⟩ ∈ WU := wu 2277 (by decide +kernel) (by decide +kernel)
theorem k_2278 : Cond.selects "PaneStreetModel" ⟨"PaneStreetModel", "undo", "()Z"⟩ ⟨"PaneStreetModel", "undo", "()Z"⟩ ∈ WU := wu 2278 (by decide +kernel) (by decide +kernel)
theorem k_2280 : Cond.methodLink "PaneStreetLaw" 315 ⟨"PaneStreetModel", "image", "()V"⟩ ∈ WU := wu 2280 (by decide +kernel) (by decide +kernel)
theorem k_2281 : Cond.instanceMethod ⟨"PaneStreetModel", "image", "()V"⟩ ∈ WU := wu 2281 (by decide +kernel) (by decide +kernel)
theorem k_2282 : Cond.selects "PaneStreetModel" ⟨"PaneStreetModel", "image", "()V"⟩ ⟨"PaneStreetModel", "image", "()V"⟩ ∈ WU := wu 2282 (by decide +kernel) (by decide +kernel)
theorem k_2284 : Cond.methodLink "PaneStreetLaw" 319 ⟨"PaneStreetModel", "back", "()Z"⟩ ∈ WU := wu 2284 (by decide +kernel) (by decide +kernel)
theorem k_2285 : Cond.instanceMethod ⟨"PaneStreetModel", "back", "()Z"⟩ ∈ WU := wu 2285 (by decide +kernel) (by decide +kernel)
theorem k_2286 : Cond.selects "PaneStreetModel" ⟨"PaneStreetModel", "back", "()Z"⟩ ⟨"PaneStreetModel", "back", "()Z"⟩ ∈ WU := wu 2286 (by decide +kernel) (by decide +kernel)
theorem k_2288 : Cond.methodLink "PaneStreetLaw" 323 ⟨"PaneStreetModel", "count", "(I)I"⟩ ∈ WU := wu 2288 (by decide +kernel) (by decide +kernel)
theorem k_2289 : Cond.instanceMethod ⟨"PaneStreetModel", "count", "(I)I"⟩ ∈ WU := wu 2289 (by decide +kernel) (by decide +kernel)
theorem k_2290 : Cond.selects "PaneStreetModel" ⟨"PaneStreetModel", "count", "(I)I"⟩ ⟨"PaneStreetModel", "count", "(I)I"⟩ ∈ WU := wu 2290 (by decide +kernel) (by decide +kernel)
theorem k_442 : Cond.methodLink "PaneStreetLaw" 127 ⟨"PaneStreet", "feed", "(IIIII)I"⟩ ∈ WU := wu 442 (by decide +kernel) (by decide +kernel)
theorem k_443 : Cond.instanceMethod ⟨"PaneStreet", "feed", "(IIIII)I"⟩ ∈ WU := wu 443 (by decide +kernel) (by decide +kernel)
theorem k_444 : Cond.selects "PaneStreet" ⟨"PaneStreet", "feed", "(IIIII)I"⟩ ⟨"PaneStreet", "feed", "(IIIII)I"⟩ ∈ WU := wu 444 (by decide +kernel) (by decide +kernel)
theorem k_454 : Cond.methodLink "PaneStreetLaw" 132 ⟨"PaneStreet", "end", "(I)Z"⟩ ∈ WU := wu 454 (by decide +kernel) (by decide +kernel)
theorem k_455 : Cond.instanceMethod ⟨"PaneStreet", "end", "(I)Z"⟩ ∈ WU := wu 455 (by decide +kernel) (by decide +kernel)
theorem k_456 : Cond.selects "PaneStreet" ⟨"PaneStreet", "end", "(I)Z"⟩ ⟨"PaneStreet", "end", "(I)Z"⟩ ∈ WU := wu 456 (by decide +kernel) (by decide +kernel)
theorem k_458 : Cond.methodLink "PaneStreetLaw" 148 ⟨"PaneStreet", "fault", "()I"⟩ ∈ WU := wu 458 (by decide +kernel) (by decide +kernel)
theorem k_459 : Cond.instanceMethod ⟨"PaneStreet", "fault", "()I"⟩ ∈ WU := wu 459 (by decide +kernel) (by decide +kernel)
theorem k_460 : Cond.selects "PaneStreet" ⟨"PaneStreet", "fault", "()I"⟩ ⟨"PaneStreet", "fault", "()I"⟩ ∈ WU := wu 460 (by decide +kernel) (by decide +kernel)
theorem k_462 : Cond.methodLink "PaneStreetLaw" 201 ⟨"PaneStreet", "out", "()I"⟩ ∈ WU := wu 462 (by decide +kernel) (by decide +kernel)
theorem k_463 : Cond.instanceMethod ⟨"PaneStreet", "out", "()I"⟩ ∈ WU := wu 463 (by decide +kernel) (by decide +kernel)
theorem k_464 : Cond.selects "PaneStreet" ⟨"PaneStreet", "out", "()I"⟩ ⟨"PaneStreet", "out", "()I"⟩ ∈ WU := wu 464 (by decide +kernel) (by decide +kernel)
theorem k_605 : Cond.methodLink "PaneStreetLaw" 205 ⟨"PaneStreet", "spoon", "()I"⟩ ∈ WU := wu 605 (by decide +kernel) (by decide +kernel)
theorem k_606 : Cond.instanceMethod ⟨"PaneStreet", "spoon", "()I"⟩ ∈ WU := wu 606 (by decide +kernel) (by decide +kernel)
theorem k_607 : Cond.selects "PaneStreet" ⟨"PaneStreet", "spoon", "()I"⟩ ⟨"PaneStreet", "spoon", "()I"⟩ ∈ WU := wu 607 (by decide +kernel) (by decide +kernel)
theorem k_613 : Cond.methodLink "PaneStreetLaw" 209 ⟨"PaneStreet", "never", "()I"⟩ ∈ WU := wu 613 (by decide +kernel) (by decide +kernel)
theorem k_614 : Cond.instanceMethod ⟨"PaneStreet", "never", "()I"⟩ ∈ WU := wu 614 (by decide +kernel) (by decide +kernel)
theorem k_615 : Cond.selects "PaneStreet" ⟨"PaneStreet", "never", "()I"⟩ ⟨"PaneStreet", "never", "()I"⟩ ∈ WU := wu 615 (by decide +kernel) (by decide +kernel)
theorem k_630 : Cond.methodLink "PaneStreetLaw" 217 ⟨"PaneStreet", "beats", "()I"⟩ ∈ WU := wu 630 (by decide +kernel) (by decide +kernel)
theorem k_631 : Cond.instanceMethod ⟨"PaneStreet", "beats", "()I"⟩ ∈ WU := wu 631 (by decide +kernel) (by decide +kernel)
theorem k_632 : Cond.selects "PaneStreet" ⟨"PaneStreet", "beats", "()I"⟩ ⟨"PaneStreet", "beats", "()I"⟩ ∈ WU := wu 632 (by decide +kernel) (by decide +kernel)
theorem k_646 : Cond.methodLink "PaneStreetLaw" 221 ⟨"PaneStreet", "parts", "()I"⟩ ∈ WU := wu 646 (by decide +kernel) (by decide +kernel)
theorem k_647 : Cond.instanceMethod ⟨"PaneStreet", "parts", "()I"⟩ ∈ WU := wu 647 (by decide +kernel) (by decide +kernel)
theorem k_648 : Cond.selects "PaneStreet" ⟨"PaneStreet", "parts", "()I"⟩ ⟨"PaneStreet", "parts", "()I"⟩ ∈ WU := wu 648 (by decide +kernel) (by decide +kernel)
theorem k_659 : Cond.methodLink "PaneStreetLaw" 225 ⟨"PaneStreet", "bend", "()I"⟩ ∈ WU := wu 659 (by decide +kernel) (by decide +kernel)
theorem k_660 : Cond.instanceMethod ⟨"PaneStreet", "bend", "()I"⟩ ∈ WU := wu 660 (by decide +kernel) (by decide +kernel)
theorem k_661 : Cond.selects "PaneStreet" ⟨"PaneStreet", "bend", "()I"⟩ ⟨"PaneStreet", "bend", "()I"⟩ ∈ WU := wu 661 (by decide +kernel) (by decide +kernel)
theorem k_668 : Cond.methodLink "PaneStreetLaw" 232 ⟨"PaneStreet", "madeUp", "()I"⟩ ∈ WU := wu 668 (by decide +kernel) (by decide +kernel)
theorem k_669 : Cond.instanceMethod ⟨"PaneStreet", "madeUp", "()I"⟩ ∈ WU := wu 669 (by decide +kernel) (by decide +kernel)
theorem k_670 : Cond.selects "PaneStreet" ⟨"PaneStreet", "madeUp", "()I"⟩ ⟨"PaneStreet", "madeUp", "()I"⟩ ∈ WU := wu 670 (by decide +kernel) (by decide +kernel)
theorem k_680 : Cond.methodLink "PaneStreetLaw" 245 ⟨"PaneStreet", "sides", "()I"⟩ ∈ WU := wu 680 (by decide +kernel) (by decide +kernel)
theorem k_681 : Cond.instanceMethod ⟨"PaneStreet", "sides", "()I"⟩ ∈ WU := wu 681 (by decide +kernel) (by decide +kernel)
theorem k_682 : Cond.selects "PaneStreet" ⟨"PaneStreet", "sides", "()I"⟩ ⟨"PaneStreet", "sides", "()I"⟩ ∈ WU := wu 682 (by decide +kernel) (by decide +kernel)
theorem k_694 : Cond.methodLink "PaneStreetLaw" 264 ⟨"PaneStreet", "bright", "()I"⟩ ∈ WU := wu 694 (by decide +kernel) (by decide +kernel)
theorem k_695 : Cond.instanceMethod ⟨"PaneStreet", "bright", "()I"⟩ ∈ WU := wu 695 (by decide +kernel) (by decide +kernel)
theorem k_696 : Cond.selects "PaneStreet" ⟨"PaneStreet", "bright", "()I"⟩ ⟨"PaneStreet", "bright", "()I"⟩ ∈ WU := wu 696 (by decide +kernel) (by decide +kernel)
theorem k_698 : Cond.methodLink "PaneStreetLaw" 268 ⟨"PaneStreet", "gloom", "()I"⟩ ∈ WU := wu 698 (by decide +kernel) (by decide +kernel)
theorem k_699 : Cond.instanceMethod ⟨"PaneStreet", "gloom", "()I"⟩ ∈ WU := wu 699 (by decide +kernel) (by decide +kernel)
theorem k_700 : Cond.selects "PaneStreet" ⟨"PaneStreet", "gloom", "()I"⟩ ⟨"PaneStreet", "gloom", "()I"⟩ ∈ WU := wu 700 (by decide +kernel) (by decide +kernel)
theorem k_706 : Cond.methodLink "PaneStreetLaw" 272 ⟨"PaneStreet", "lamplighter", "()I"⟩ ∈ WU := wu 706 (by decide +kernel) (by decide +kernel)
theorem k_707 : Cond.instanceMethod ⟨"PaneStreet", "lamplighter", "()I"⟩ ∈ WU := wu 707 (by decide +kernel) (by decide +kernel)
theorem k_708 : Cond.selects "PaneStreet" ⟨"PaneStreet", "lamplighter", "()I"⟩ ⟨"PaneStreet", "lamplighter", "()I"⟩ ∈ WU := wu 708 (by decide +kernel) (by decide +kernel)
theorem k_714 : Cond.methodLink "PaneStreetLaw" 276 ⟨"PaneStreet", "spent", "()I"⟩ ∈ WU := wu 714 (by decide +kernel) (by decide +kernel)
theorem k_715 : Cond.instanceMethod ⟨"PaneStreet", "spent", "()I"⟩ ∈ WU := wu 715 (by decide +kernel) (by decide +kernel)
theorem k_716 : Cond.selects "PaneStreet" ⟨"PaneStreet", "spent", "()I"⟩ ⟨"PaneStreet", "spent", "()I"⟩ ∈ WU := wu 716 (by decide +kernel) (by decide +kernel)
theorem k_722 : Cond.methodLink "PaneStreetLaw" 280 ⟨"PaneStreet", "crowd", "()I"⟩ ∈ WU := wu 722 (by decide +kernel) (by decide +kernel)
theorem k_723 : Cond.instanceMethod ⟨"PaneStreet", "crowd", "()I"⟩ ∈ WU := wu 723 (by decide +kernel) (by decide +kernel)
theorem k_724 : Cond.selects "PaneStreet" ⟨"PaneStreet", "crowd", "()I"⟩ ⟨"PaneStreet", "crowd", "()I"⟩ ∈ WU := wu 724 (by decide +kernel) (by decide +kernel)
theorem k_730 : Cond.methodLink "PaneStreetLaw" 284 ⟨"PaneStreet", "alike", "()I"⟩ ∈ WU := wu 730 (by decide +kernel) (by decide +kernel)
theorem k_731 : Cond.instanceMethod ⟨"PaneStreet", "alike", "()I"⟩ ∈ WU := wu 731 (by decide +kernel) (by decide +kernel)
theorem k_732 : Cond.selects "PaneStreet" ⟨"PaneStreet", "alike", "()I"⟩ ⟨"PaneStreet", "alike", "()I"⟩ ∈ WU := wu 732 (by decide +kernel) (by decide +kernel)
theorem k_738 : Cond.methodLink "PaneStreetLaw" 303 ⟨"PaneStreet", "seed", "(I)I"⟩ ∈ WU := wu 738 (by decide +kernel) (by decide +kernel)
theorem k_739 : Cond.instanceMethod ⟨"PaneStreet", "seed", "(I)I"⟩ ∈ WU := wu 739 (by decide +kernel) (by decide +kernel)
theorem k_740 : Cond.selects "PaneStreet" ⟨"PaneStreet", "seed", "(I)I"⟩ ⟨"PaneStreet", "seed", "(I)I"⟩ ∈ WU := wu 740 (by decide +kernel) (by decide +kernel)
theorem k_742 : Cond.methodLink "PaneStreetLaw" 307 ⟨"PaneStreet", "undo", "()Z"⟩ ∈ WU := wu 742 (by decide +kernel) (by decide +kernel)
theorem k_743 : Cond.instanceMethod ⟨"PaneStreet", "undo", "()Z"⟩ ∈ WU := wu 743 (by decide +kernel) (by decide +kernel)
theorem k_744 : Cond.selects "PaneStreet" ⟨"PaneStreet", "undo", "()Z"⟩ ⟨"PaneStreet", "undo", "()Z"⟩ ∈ WU := wu 744 (by decide +kernel) (by decide +kernel)
theorem k_755 : Cond.methodLink "PaneStreetLaw" 312 ⟨"PaneStreet", "image", "()V"⟩ ∈ WU := wu 755 (by decide +kernel) (by decide +kernel)
theorem k_756 : Cond.instanceMethod ⟨"PaneStreet", "image", "()V"⟩ ∈ WU := wu 756 (by decide +kernel) (by decide +kernel)
theorem k_757 : Cond.selects "PaneStreet" ⟨"PaneStreet", "image", "()V"⟩ ⟨"PaneStreet", "image", "()V"⟩ ∈ WU := wu 757 (by decide +kernel) (by decide +kernel)
theorem k_765 : Cond.methodLink "PaneStreetLaw" 316 ⟨"PaneStreet", "back", "()Z"⟩ ∈ WU := wu 765 (by decide +kernel) (by decide +kernel)
theorem k_766 : Cond.instanceMethod ⟨"PaneStreet", "back", "()Z"⟩ ∈ WU := wu 766 (by decide +kernel) (by decide +kernel)
theorem k_767 : Cond.selects "PaneStreet" ⟨"PaneStreet", "back", "()Z"⟩ ⟨"PaneStreet", "back", "()Z"⟩ ∈ WU := wu 767 (by decide +kernel) (by decide +kernel)
theorem k_773 : Cond.methodLink "PaneStreetLaw" 320 ⟨"PaneStreet", "count", "(I)I"⟩ ∈ WU := wu 773 (by decide +kernel) (by decide +kernel)
theorem k_774 : Cond.instanceMethod ⟨"PaneStreet", "count", "(I)I"⟩ ∈ WU := wu 774 (by decide +kernel) (by decide +kernel)
theorem k_775 : Cond.selects "PaneStreet" ⟨"PaneStreet", "count", "(I)I"⟩ ⟨"PaneStreet", "count", "(I)I"⟩ ∈ WU := wu 775 (by decide +kernel) (by decide +kernel)
theorem k_794 : Cond.methodLink "PaneStreetLaw" 136 ⟨"PaneStreetLaw", "street", "(LPaneStreet;[J)I"⟩ ∈ WU := wu 794 (by decide +kernel) (by decide +kernel)
theorem k_795 : Cond.static ⟨"PaneStreetLaw", "street", "(LPaneStreet;[J)I"⟩ ∈ WU := wu 795 (by decide +kernel) (by decide +kernel)
theorem k_796 : Cond.codeWith ⟨"PaneStreetLaw", "street", "(LPaneStreet;[J)I"⟩ method_3_code 3 (some FieldType.int) [(0, 8, 11, 13), (0, 8, 14, 15)] ∈ WU := wu 796 (by decide +kernel) (by decide +kernel)
theorem q_X11_feed : CQ yX11_feed cX11_feed 6 (some .int) 5 := ⟨wu 445 (by decide +kernel) (by decide +kernel), wu 104 (by decide +kernel) (by decide +kernel), by decide +kernel, by decide +kernel, by decide +kernel⟩
theorem q_X12_feed : CQ yX12_feed cX12_feed 8 (some .int) 5 := ⟨wu 1728 (by decide +kernel) (by decide +kernel), wu 116 (by decide +kernel) (by decide +kernel), by decide +kernel, by decide +kernel, by decide +kernel⟩
theorem q_X11_end : CQ yX11_end cX11_end 2 (some .boolean) 1 := ⟨wu 457 (by decide +kernel) (by decide +kernel), wu 104 (by decide +kernel) (by decide +kernel), by decide +kernel, by decide +kernel, by decide +kernel⟩
theorem q_X12_end : CQ yX12_end cX12_end 2 (some .boolean) 1 := ⟨wu 1732 (by decide +kernel) (by decide +kernel), wu 116 (by decide +kernel) (by decide +kernel), by decide +kernel, by decide +kernel, by decide +kernel⟩
theorem q_X12_street : CQ yX12_street cX12_street 2 (some .int) 0 := ⟨wu 1739 (by decide +kernel) (by decide +kernel), wu 116 (by decide +kernel) (by decide +kernel), by decide +kernel, by decide +kernel, by decide +kernel⟩
theorem q_X12_thrown : CQ yX12_thrown cX12_thrown 1 (some .int) 0 := ⟨wu 1724 (by decide +kernel) (by decide +kernel), wu 116 (by decide +kernel) (by decide +kernel), by decide +kernel, by decide +kernel, by decide +kernel⟩
theorem q_X12_law : CQ yX12_law cX12_law 3 (some .int) 0 := ⟨wu 1880 (by decide +kernel) (by decide +kernel), wu 116 (by decide +kernel) (by decide +kernel), by decide +kernel, by decide +kernel, by decide +kernel⟩
theorem q_X11_fault : CQ yX11_fault cX11_fault 1 (some .int) 0 := ⟨wu 461 (by decide +kernel) (by decide +kernel), wu 104 (by decide +kernel) (by decide +kernel), by decide +kernel, by decide +kernel, by decide +kernel⟩
theorem q_X12_fault : CQ yX12_fault cX12_fault 1 (some .int) 0 := ⟨wu 1884 (by decide +kernel) (by decide +kernel), wu 116 (by decide +kernel) (by decide +kernel), by decide +kernel, by decide +kernel, by decide +kernel⟩
theorem q_X12_pane : CQ yX12_pane cX12_pane 3 (some .int) 2 := ⟨wu 1888 (by decide +kernel) (by decide +kernel), wu 116 (by decide +kernel) (by decide +kernel), by decide +kernel, by decide +kernel, by decide +kernel⟩
theorem q_X12_walker : CQ yX12_walker cX12_walker 3 (some .int) 2 := ⟨wu 1974 (by decide +kernel) (by decide +kernel), wu 116 (by decide +kernel) (by decide +kernel), by decide +kernel, by decide +kernel, by decide +kernel⟩
theorem q_X12_likes : CQ yX12_likes cX12_likes 3 (some .int) 2 := ⟨wu 1999 (by decide +kernel) (by decide +kernel), wu 116 (by decide +kernel) (by decide +kernel), by decide +kernel, by decide +kernel, by decide +kernel⟩
theorem q_X12_will : CQ yX12_will cX12_will 3 (some .int) 2 := ⟨wu 2007 (by decide +kernel) (by decide +kernel), wu 116 (by decide +kernel) (by decide +kernel), by decide +kernel, by decide +kernel, by decide +kernel⟩
theorem q_X12_lights : CQ yX12_lights cX12_lights 3 (some .boolean) 2 := ⟨wu 2011 (by decide +kernel) (by decide +kernel), wu 116 (by decide +kernel) (by decide +kernel), by decide +kernel, by decide +kernel, by decide +kernel⟩
theorem q_X12_isOpen : CQ yX12_isOpen cX12_isOpen 3 (some .boolean) 2 := ⟨wu 2015 (by decide +kernel) (by decide +kernel), wu 116 (by decide +kernel) (by decide +kernel), by decide +kernel, by decide +kernel, by decide +kernel⟩
theorem q_X12_hours : CQ yX12_hours cX12_hours 2 (some .int) 1 := ⟨wu 2023 (by decide +kernel) (by decide +kernel), wu 116 (by decide +kernel) (by decide +kernel), by decide +kernel, by decide +kernel, by decide +kernel⟩
theorem q_X12_heads : CQ yX12_heads cX12_heads 3 (some .int) 2 := ⟨wu 2035 (by decide +kernel) (by decide +kernel), wu 116 (by decide +kernel) (by decide +kernel), by decide +kernel, by decide +kernel, by decide +kernel⟩
theorem q_X12_strike : CQ yX12_strike cX12_strike 3 (some .int) 1 := ⟨wu 2043 (by decide +kernel) (by decide +kernel), wu 116 (by decide +kernel) (by decide +kernel), by decide +kernel, by decide +kernel, by decide +kernel⟩
theorem q_X12_snuff : CQ yX12_snuff cX12_snuff 3 (some .int) 1 := ⟨wu 2047 (by decide +kernel) (by decide +kernel), wu 116 (by decide +kernel) (by decide +kernel), by decide +kernel, by decide +kernel, by decide +kernel⟩
theorem q_X12_oil : CQ yX12_oil cX12_oil 4 (some .int) 2 := ⟨wu 2051 (by decide +kernel) (by decide +kernel), wu 116 (by decide +kernel) (by decide +kernel), by decide +kernel, by decide +kernel, by decide +kernel⟩
theorem q_X12_taper : CQ yX12_taper cX12_taper 4 (some .int) 2 := ⟨wu 2055 (by decide +kernel) (by decide +kernel), wu 116 (by decide +kernel) (by decide +kernel), by decide +kernel, by decide +kernel, by decide +kernel⟩
theorem q_X12_like : CQ yX12_like cX12_like 4 (some .int) 3 := ⟨wu 2059 (by decide +kernel) (by decide +kernel), wu 116 (by decide +kernel) (by decide +kernel), by decide +kernel, by decide +kernel, by decide +kernel⟩
theorem q_X12_way : CQ yX12_way cX12_way 5 (some .boolean) 3 := ⟨wu 2063 (by decide +kernel) (by decide +kernel), wu 116 (by decide +kernel) (by decide +kernel), by decide +kernel, by decide +kernel, by decide +kernel⟩
theorem q_X12_far : CQ yX12_far cX12_far 3 (some .int) 2 := ⟨wu 2067 (by decide +kernel) (by decide +kernel), wu 116 (by decide +kernel) (by decide +kernel), by decide +kernel, by decide +kernel, by decide +kernel⟩
theorem q_X11_out : CQ yX11_out cX11_out 1 (some .int) 0 := ⟨wu 465 (by decide +kernel) (by decide +kernel), wu 104 (by decide +kernel) (by decide +kernel), by decide +kernel, by decide +kernel, by decide +kernel⟩
theorem q_X12_out : CQ yX12_out cX12_out 4 (some .int) 0 := ⟨wu 2071 (by decide +kernel) (by decide +kernel), wu 116 (by decide +kernel) (by decide +kernel), by decide +kernel, by decide +kernel, by decide +kernel⟩
theorem q_X11_spoon : CQ yX11_spoon cX11_spoon 1 (some .int) 0 := ⟨wu 608 (by decide +kernel) (by decide +kernel), wu 104 (by decide +kernel) (by decide +kernel), by decide +kernel, by decide +kernel, by decide +kernel⟩
theorem q_X12_spoon : CQ yX12_spoon cX12_spoon 4 (some .int) 0 := ⟨wu 2079 (by decide +kernel) (by decide +kernel), wu 116 (by decide +kernel) (by decide +kernel), by decide +kernel, by decide +kernel, by decide +kernel⟩
theorem q_X11_never : CQ yX11_never cX11_never 1 (some .int) 0 := ⟨wu 616 (by decide +kernel) (by decide +kernel), wu 104 (by decide +kernel) (by decide +kernel), by decide +kernel, by decide +kernel, by decide +kernel⟩
theorem q_X12_never : CQ yX12_never cX12_never 3 (some .int) 0 := ⟨wu 2083 (by decide +kernel) (by decide +kernel), wu 116 (by decide +kernel) (by decide +kernel), by decide +kernel, by decide +kernel, by decide +kernel⟩
theorem q_X12_round : CQ yX12_round cX12_round 8 (some .int) 2 := ⟨wu 2087 (by decide +kernel) (by decide +kernel), wu 116 (by decide +kernel) (by decide +kernel), by decide +kernel, by decide +kernel, by decide +kernel⟩
theorem q_X11_beats : CQ yX11_beats cX11_beats 1 (some .int) 0 := ⟨wu 633 (by decide +kernel) (by decide +kernel), wu 104 (by decide +kernel) (by decide +kernel), by decide +kernel, by decide +kernel, by decide +kernel⟩
theorem q_X12_beats : CQ yX12_beats cX12_beats 3 (some .int) 0 := ⟨wu 2103 (by decide +kernel) (by decide +kernel), wu 116 (by decide +kernel) (by decide +kernel), by decide +kernel, by decide +kernel, by decide +kernel⟩
theorem q_X11_parts : CQ yX11_parts cX11_parts 1 (some .int) 0 := ⟨wu 649 (by decide +kernel) (by decide +kernel), wu 104 (by decide +kernel) (by decide +kernel), by decide +kernel, by decide +kernel, by decide +kernel⟩
theorem q_X12_parts : CQ yX12_parts cX12_parts 4 (some .int) 0 := ⟨wu 2114 (by decide +kernel) (by decide +kernel), wu 116 (by decide +kernel) (by decide +kernel), by decide +kernel, by decide +kernel, by decide +kernel⟩
theorem q_X11_bend : CQ yX11_bend cX11_bend 1 (some .int) 0 := ⟨wu 662 (by decide +kernel) (by decide +kernel), wu 104 (by decide +kernel) (by decide +kernel), by decide +kernel, by decide +kernel, by decide +kernel⟩
theorem q_X12_bend : CQ yX12_bend cX12_bend 4 (some .int) 0 := ⟨wu 2122 (by decide +kernel) (by decide +kernel), wu 116 (by decide +kernel) (by decide +kernel), by decide +kernel, by decide +kernel, by decide +kernel⟩
theorem q_X12_closed : CQ yX12_closed cX12_closed 4 (some .int) 2 := ⟨wu 2126 (by decide +kernel) (by decide +kernel), wu 116 (by decide +kernel) (by decide +kernel), by decide +kernel, by decide +kernel, by decide +kernel⟩
theorem q_X11_madeUp : CQ yX11_madeUp cX11_madeUp 1 (some .int) 0 := ⟨wu 671 (by decide +kernel) (by decide +kernel), wu 104 (by decide +kernel) (by decide +kernel), by decide +kernel, by decide +kernel, by decide +kernel⟩
theorem q_X12_madeUp : CQ yX12_madeUp cX12_madeUp 4 (some .int) 0 := ⟨wu 2134 (by decide +kernel) (by decide +kernel), wu 116 (by decide +kernel) (by decide +kernel), by decide +kernel, by decide +kernel, by decide +kernel⟩
theorem q_X12_whoLit : CQ yX12_whoLit cX12_whoLit 2 (some .int) 0 := ⟨wu 2142 (by decide +kernel) (by decide +kernel), wu 116 (by decide +kernel) (by decide +kernel), by decide +kernel, by decide +kernel, by decide +kernel⟩
theorem q_X12_ask : CQ yX12_ask cX12_ask 8 (some .int) 0 := ⟨wu 2154 (by decide +kernel) (by decide +kernel), wu 116 (by decide +kernel) (by decide +kernel), by decide +kernel, by decide +kernel, by decide +kernel⟩
theorem q_X12_ring : CQ yX12_ring cX12_ring 4 (some .boolean) 1 := ⟨wu 2162 (by decide +kernel) (by decide +kernel), wu 116 (by decide +kernel) (by decide +kernel), by decide +kernel, by decide +kernel, by decide +kernel⟩
theorem q_X11_sides : CQ yX11_sides cX11_sides 1 (some .int) 0 := ⟨wu 683 (by decide +kernel) (by decide +kernel), wu 104 (by decide +kernel) (by decide +kernel), by decide +kernel, by decide +kernel, by decide +kernel⟩
theorem q_X12_sides : CQ yX12_sides cX12_sides 7 (some .int) 0 := ⟨wu 2170 (by decide +kernel) (by decide +kernel), wu 116 (by decide +kernel) (by decide +kernel), by decide +kernel, by decide +kernel, by decide +kernel⟩
theorem q_X12_pairs : CQ yX12_pairs cX12_pairs 7 (some .int) 1 := ⟨wu 2178 (by decide +kernel) (by decide +kernel), wu 116 (by decide +kernel) (by decide +kernel), by decide +kernel, by decide +kernel, by decide +kernel⟩
theorem q_X12_learnt : CQ yX12_learnt cX12_learnt 7 (some .int) 0 := ⟨wu 2193 (by decide +kernel) (by decide +kernel), wu 116 (by decide +kernel) (by decide +kernel), by decide +kernel, by decide +kernel, by decide +kernel⟩
theorem q_X12_share : CQ yX12_share cX12_share 6 (some .int) 2 := ⟨wu 2201 (by decide +kernel) (by decide +kernel), wu 116 (by decide +kernel) (by decide +kernel), by decide +kernel, by decide +kernel, by decide +kernel⟩
theorem q_X12_rests : CQ yX12_rests cX12_rests 7 (some .int) 2 := ⟨wu 2205 (by decide +kernel) (by decide +kernel), wu 116 (by decide +kernel) (by decide +kernel), by decide +kernel, by decide +kernel, by decide +kernel⟩
theorem q_X12_odds : CQ yX12_odds cX12_odds 11 (some .int) 2 := ⟨wu 2213 (by decide +kernel) (by decide +kernel), wu 116 (by decide +kernel) (by decide +kernel), by decide +kernel, by decide +kernel, by decide +kernel⟩
theorem q_X11_bright : CQ yX11_bright cX11_bright 1 (some .int) 0 := ⟨wu 697 (by decide +kernel) (by decide +kernel), wu 104 (by decide +kernel) (by decide +kernel), by decide +kernel, by decide +kernel, by decide +kernel⟩
theorem q_X12_bright : CQ yX12_bright cX12_bright 1 (some .int) 0 := ⟨wu 2219 (by decide +kernel) (by decide +kernel), wu 116 (by decide +kernel) (by decide +kernel), by decide +kernel, by decide +kernel, by decide +kernel⟩
theorem q_X11_gloom : CQ yX11_gloom cX11_gloom 1 (some .int) 0 := ⟨wu 701 (by decide +kernel) (by decide +kernel), wu 104 (by decide +kernel) (by decide +kernel), by decide +kernel, by decide +kernel, by decide +kernel⟩
theorem q_X12_gloom : CQ yX12_gloom cX12_gloom 3 (some .int) 0 := ⟨wu 2223 (by decide +kernel) (by decide +kernel), wu 116 (by decide +kernel) (by decide +kernel), by decide +kernel, by decide +kernel, by decide +kernel⟩
theorem q_X11_lamplighter : CQ yX11_lamplighter cX11_lamplighter 1 (some .int) 0 := ⟨wu 709 (by decide +kernel) (by decide +kernel), wu 104 (by decide +kernel) (by decide +kernel), by decide +kernel, by decide +kernel, by decide +kernel⟩
theorem q_X12_lamplighter : CQ yX12_lamplighter cX12_lamplighter 3 (some .int) 0 := ⟨wu 2227 (by decide +kernel) (by decide +kernel), wu 116 (by decide +kernel) (by decide +kernel), by decide +kernel, by decide +kernel, by decide +kernel⟩
theorem q_X11_spent : CQ yX11_spent cX11_spent 1 (some .int) 0 := ⟨wu 717 (by decide +kernel) (by decide +kernel), wu 104 (by decide +kernel) (by decide +kernel), by decide +kernel, by decide +kernel, by decide +kernel⟩
theorem q_X12_spent : CQ yX12_spent cX12_spent 3 (some .int) 0 := ⟨wu 2231 (by decide +kernel) (by decide +kernel), wu 116 (by decide +kernel) (by decide +kernel), by decide +kernel, by decide +kernel, by decide +kernel⟩
theorem q_X11_crowd : CQ yX11_crowd cX11_crowd 1 (some .int) 0 := ⟨wu 725 (by decide +kernel) (by decide +kernel), wu 104 (by decide +kernel) (by decide +kernel), by decide +kernel, by decide +kernel, by decide +kernel⟩
theorem q_X12_crowd : CQ yX12_crowd cX12_crowd 3 (some .int) 0 := ⟨wu 2235 (by decide +kernel) (by decide +kernel), wu 116 (by decide +kernel) (by decide +kernel), by decide +kernel, by decide +kernel, by decide +kernel⟩
theorem q_X11_alike : CQ yX11_alike cX11_alike 1 (some .int) 0 := ⟨wu 733 (by decide +kernel) (by decide +kernel), wu 104 (by decide +kernel) (by decide +kernel), by decide +kernel, by decide +kernel, by decide +kernel⟩
theorem q_X12_alike : CQ yX12_alike cX12_alike 4 (some .int) 0 := ⟨wu 2243 (by decide +kernel) (by decide +kernel), wu 116 (by decide +kernel) (by decide +kernel), by decide +kernel, by decide +kernel, by decide +kernel⟩
theorem q_X12_ahead : CQ yX12_ahead cX12_ahead 6 (some .int) 3 := ⟨wu 2247 (by decide +kernel) (by decide +kernel), wu 116 (by decide +kernel) (by decide +kernel), by decide +kernel, by decide +kernel, by decide +kernel⟩
theorem q_X12_trial : CQ yX12_trial cX12_trial 5 (some .int) 2 := ⟨wu 2251 (by decide +kernel) (by decide +kernel), wu 116 (by decide +kernel) (by decide +kernel), by decide +kernel, by decide +kernel, by decide +kernel⟩
theorem q_X12_span : CQ yX12_span cX12_span 7 (some .int) 2 := ⟨wu 2259 (by decide +kernel) (by decide +kernel), wu 116 (by decide +kernel) (by decide +kernel), by decide +kernel, by decide +kernel, by decide +kernel⟩
theorem q_X12_led : CQ yX12_led cX12_led 6 (some .int) 2 := ⟨wu 2263 (by decide +kernel) (by decide +kernel), wu 116 (by decide +kernel) (by decide +kernel), by decide +kernel, by decide +kernel, by decide +kernel⟩
theorem q_X12_log : CQ yX12_log cX12_log 3 (some .int) 2 := ⟨wu 2271 (by decide +kernel) (by decide +kernel), wu 116 (by decide +kernel) (by decide +kernel), by decide +kernel, by decide +kernel, by decide +kernel⟩
theorem q_X11_seed : CQ yX11_seed cX11_seed 3 (some .int) 1 := ⟨wu 741 (by decide +kernel) (by decide +kernel), wu 104 (by decide +kernel) (by decide +kernel), by decide +kernel, by decide +kernel, by decide +kernel⟩
theorem q_X12_seed : CQ yX12_seed cX12_seed 3 (some .int) 1 := ⟨wu 2275 (by decide +kernel) (by decide +kernel), wu 116 (by decide +kernel) (by decide +kernel), by decide +kernel, by decide +kernel, by decide +kernel⟩
theorem q_X11_undo : CQ yX11_undo cX11_undo 1 (some .boolean) 0 := ⟨wu 745 (by decide +kernel) (by decide +kernel), wu 104 (by decide +kernel) (by decide +kernel), by decide +kernel, by decide +kernel, by decide +kernel⟩
theorem q_X12_undo : CQ yX12_undo cX12_undo 2 (some .boolean) 0 := ⟨wu 2279 (by decide +kernel) (by decide +kernel), wu 116 (by decide +kernel) (by decide +kernel), by decide +kernel, by decide +kernel, by decide +kernel⟩
theorem q_X11_image : CQ yX11_image cX11_image 1 none 0 := ⟨wu 758 (by decide +kernel) (by decide +kernel), wu 104 (by decide +kernel) (by decide +kernel), by decide +kernel, by decide +kernel, by decide +kernel⟩
theorem q_X12_image : CQ yX12_image cX12_image 2 none 0 := ⟨wu 2283 (by decide +kernel) (by decide +kernel), wu 116 (by decide +kernel) (by decide +kernel), by decide +kernel, by decide +kernel, by decide +kernel⟩
theorem q_X11_back : CQ yX11_back cX11_back 1 (some .boolean) 0 := ⟨wu 768 (by decide +kernel) (by decide +kernel), wu 104 (by decide +kernel) (by decide +kernel), by decide +kernel, by decide +kernel, by decide +kernel⟩
theorem q_X12_back : CQ yX12_back cX12_back 2 (some .boolean) 0 := ⟨wu 2287 (by decide +kernel) (by decide +kernel), wu 116 (by decide +kernel) (by decide +kernel), by decide +kernel, by decide +kernel, by decide +kernel⟩
theorem q_X11_count : CQ yX11_count cX11_count 2 (some .int) 1 := ⟨wu 776 (by decide +kernel) (by decide +kernel), wu 104 (by decide +kernel) (by decide +kernel), by decide +kernel, by decide +kernel, by decide +kernel⟩
theorem q_X12_count : CQ yX12_count cX12_count 2 (some .int) 1 := ⟨wu 2291 (by decide +kernel) (by decide +kernel), wu 116 (by decide +kernel) (by decide +kernel), by decide +kernel, by decide +kernel, by decide +kernel⟩

/-! the law's body: rows -/
section LAWB
variable {p : Program} {l : Launch} {e : Env} {R : Room} {s : State} {m : MethodId} {args : Array Value} {below : List Frame} {meth : Method} {c : Code} {H : Heap} {locs : List Loc} {cells slots : Nat} {Q : State → Prop}
variable {cc : ByteArray} {nL pc : Nat} {ls : Array Slot} {rest st0 As : List Value} {E : GE} {σ σ' : Mem} {own : String} {ret : Option FieldType} {y : MethodName} {b2 : ByteArray} {n2 n h index K : Nat}
theorem runSW_ {hh : List (Nat × Nat × Nat × Nat)} {r0 : Int32} (C : Cx p s m args meth c cc ret nL own) (G : Gf E s) (X : Hx E σ s H locs) (hq : Cond.codeWith y b2 n2 (some .int) hh ∈ WU) (hini : Cond.initialized y.cls ∈ WU) (hne : y.cls ≠ "java/lang/invoke/MethodHandle" ∧ y.cls ≠ "java/lang/invoke/VarHandle" ∧ (parseMethodDescriptor y.desc).map (fun d => d.parameters.length) = some n) (hsta : Cond.static y ∈ WU) (hl : Cond.methodLink own index y ∈ WU)
    (hM : CtW l E y b2 n2 hh h K As σ r0 σ') (hn : As.length = n) (hls : ls.size = nL) (hst : st0 = As.reverse ++ rest) (hW : (rest.map fun v => v.category).sum ≤ 8) (hR : h + 1 ≤ R.frames ∧ 19 + n2 + 48 * h ≤ R.locals) (hc : cells + K ≤ R.cells ∧ slots + 6 * K ≤ R.slots) (d : decode cc pc = .ok (.invokestatic index, 3)) :
    va_Run p l e R s m args below meth c H locs cells slots K (6 * K) (F0 m pc ls st0) rest (va_Qi (fun (r : Int32) (u : Mem) => r = r0 ∧ u = σ') (We E) (Fr E) As.toArray) (Fr E) :=
  vx_runSW C.fix hM ⟨⟨rfl, rfl, hR.1, by show 8 + (n2 + 11) + 48 * h ≤ R.locals; omega, cq_pay C.ts hq, List.mem_cons_self⟩, C.ts _ hq, C.ts _ hini, ⟨hne.1, hne.2.1⟩, fun sig hs => by
    have h2 := hne.2.2
    rw [hs] at h2
    exact (Option.some.inj h2).symm, C.ts _ hl, C.ts _ hsta⟩ (preS G X) rfl hn hls hst (lv_room hW) d hc
theorem afW {a : Array Value} {r0 : Int32} (X : Hx E σ s H locs) (hr : va_Run p l e R s m args below meth c H locs cells slots K (6 * K) (F0 m pc ls st0) rest (va_Qi (fun (r : Int32) (u : Mem) => r = r0 ∧ u = σ') (We E) (Fr E) a) (Fr E))
    (kk : ∀ (H1 : Heap) (locs1 : List Loc), Hx E σ' s H1 locs1 → W p l e R s m args below meth c H1 locs1 (cells + K) (slots + 6 * K) Q (F0 m (pc + 3) ls (.int r0 :: rest))) : W p l e R s m args below meth c H locs cells slots Q (F0 m pc ls st0) :=
  va_calli hr X.2 (fun _ _ h => h) (fun _ h => h) (fun r u t H1 locs1 ht _ hp hb _ _ hS => by
    obtain ⟨rfl, rfl⟩ := hp
    exact kk H1 locs1 ⟨by rw [← ht]; exact hb, hS⟩)
/-- the law's frame: the script's cell, the two classes, the long, the place in the script; the script read at a place -/
def LwL (E : GE) (b : Nat) (i : Int32) : List (Nat × Value) := [(0, .ref b), (1, .ref (gB E + 0)), (2, .ref (gB E + 399)), (3, .ref (gB E + 411)), (4, .int i)]
def LwX (L : Nat) (xs : Nat → Int32) (j v : Int32) : Prop := vp_in j L ∧ xs j.toNatClampNeg = v
theorem xld (C : Cx p s m args meth c cc ret nL own) (X : Hx E σ s H locs) {b L : Nat} {xs : Nat → Int32} (hX : va_X b L xs s s.heap) (hb : b < s.heap.size) (hbA : ¬ Fr E b) {j v : Int32} (q : LwX L xs j v) (d : decode cc pc = .ok (.iaload, 1)) (kk : W p l e R s m args below meth c H locs cells slots Q (F0 m (pc + 1) ls (.int v :: rest))) : W p l e R s m args below meth c H locs cells slots Q (F0 m pc ls (.int j :: .ref b :: rest)) :=
  va_sld C.1 C.2.1 hX hb hbA X.2 q.1 d (by rw [q.2]; exact kk)
theorem lw_sub {lv lv' : List (Nat × Value)} (h : lv_has ls nL lv) (hs : ∀ q ∈ lv', q ∈ lv) : lv_has ls nL lv' := ⟨h.1, h.2.1, fun q hq => h.2.2 q (hs q hq)⟩
end LAWB
def lw_0 (x1 x2 x3 x4 x5 : Int32) (σ : Mem) : Option (Bool × Mem) :=
  bd2 (X11_feed x1 x2 x3 x4 x5 σ) fun r303 σ303 =>
  bd2 (X12_feed x1 x2 x3 x4 x5 σ303) fun r337 σ337 =>
  if r303 = r337 then
    some (true, σ337)
  else
    some (false, σ337)

def lw_1 (x1 x2 x3 x4 x5 : Int32) (σ : Mem) : Option (Bool × Mem) :=
  bd2 (X11_end x1 σ) fun r352 σ352 =>
  bd2 (X12_end x1 σ352) fun r362 σ362 =>
  if r352 = r362 then
    some (true, σ362)
  else
    some (false, σ362)

def lw_2 (x1 x2 x3 x4 x5 : Int32) (σ : Mem) : Option (Bool × Mem) :=
  bd2 (L_street σ) fun r372 σ372 =>
  bd2 (X12_street σ372) fun r378 σ378 =>
  bd (X12_thrown σ378) fun r384 =>
  if r384 = r372 then
    if r372 = 0 then
      if (lg_cmp ((σ378 411 0).toInt64) r378.toInt64) = 0 then
        some (true, σ378)
      else
        some (false, σ378)
    else
      some (true, σ378)
  else
    some (false, σ378)

def lw_3 (x1 x2 x3 x4 x5 : Int32) (σ : Mem) : Option (Bool × Mem) :=
  bd2 (L_law σ) fun r416 σ416 =>
  bd2 (X12_law σ416) fun r422 σ422 =>
  bd (X12_thrown σ422) fun r428 =>
  if r428 = r416 then
    if r416 = 0 then
      if (lg_cmp ((σ422 411 0).toInt64) r422.toInt64) = 0 then
        some (true, σ422)
      else
        some (false, σ422)
    else
      some (true, σ422)
  else
    some (false, σ422)

def lw_4 (x1 x2 x3 x4 x5 : Int32) (σ : Mem) : Option (Bool × Mem) :=
  bd (X11_fault σ) fun r459 =>
  bd2 (X12_fault σ) fun r463 σ463 =>
  if r459 = r463 then
    some (true, σ463)
  else
    some (false, σ463)

def lw_5 (x1 x2 x3 x4 x5 : Int32) (σ : Mem) : Option (Bool × Mem) :=
  bd2 (L_pane x1 x2 σ) fun r485 σ485 =>
  bd2 (X12_pane x1 x2 σ485) fun r503 σ503 =>
  bd (X12_thrown σ503) fun r509 =>
  if r509 = r485 then
    if r485 = 0 then
      if (lg_cmp ((σ503 411 0).toInt64) r503.toInt64) = 0 then
        some (true, σ503)
      else
        some (false, σ503)
    else
      some (true, σ503)
  else
    some (false, σ503)

def lw_6 (x1 x2 x3 x4 x5 : Int32) (σ : Mem) : Option (Bool × Mem) :=
  bd2 (L_walker x1 x2 σ) fun r553 σ553 =>
  bd2 (X12_walker x1 x2 σ553) fun r571 σ571 =>
  bd (X12_thrown σ571) fun r577 =>
  if r577 = r553 then
    if r553 = 0 then
      if (lg_cmp ((σ571 411 0).toInt64) r571.toInt64) = 0 then
        some (true, σ571)
      else
        some (false, σ571)
    else
      some (true, σ571)
  else
    some (false, σ571)

def lw_7 (x1 x2 x3 x4 x5 : Int32) (σ : Mem) : Option (Bool × Mem) :=
  bd2 (L_likes x1 x2 σ) fun r621 σ621 =>
  bd2 (X12_likes x1 x2 σ621) fun r639 σ639 =>
  bd (X12_thrown σ639) fun r645 =>
  if r645 = r621 then
    if r621 = 0 then
      if (lg_cmp ((σ639 411 0).toInt64) r639.toInt64) = 0 then
        some (true, σ639)
      else
        some (false, σ639)
    else
      some (true, σ639)
  else
    some (false, σ639)

def lw_8 (x1 x2 x3 x4 x5 : Int32) (σ : Mem) : Option (Bool × Mem) :=
  bd2 (L_will x1 x2 σ) fun r689 σ689 =>
  bd2 (X12_will x1 x2 σ689) fun r707 σ707 =>
  bd (X12_thrown σ707) fun r713 =>
  if r713 = r689 then
    if r689 = 0 then
      if (lg_cmp ((σ707 411 0).toInt64) r707.toInt64) = 0 then
        some (true, σ707)
      else
        some (false, σ707)
    else
      some (true, σ707)
  else
    some (false, σ707)

def lw_9 (x1 x2 x3 x4 x5 : Int32) (σ : Mem) : Option (Bool × Mem) :=
  bd2 (L_lights x1 x2 σ) fun r757 σ757 =>
  bd2 (X12_lights x1 x2 σ757) fun r775 σ775 =>
  bd (X12_thrown σ775) fun r781 =>
  if r781 = r757 then
    if r757 = 0 then
      if r775 = 0 then
        if (lg_cmp ((σ775 411 0).toInt64) ((0 : Int64))) = 0 then
          some (true, σ775)
        else
          some (false, σ775)
      else
        if (lg_cmp ((σ775 411 0).toInt64) ((1 : Int64))) = 0 then
          some (true, σ775)
        else
          some (false, σ775)
    else
      some (true, σ775)
  else
    some (false, σ775)

def lw_10 (x1 x2 x3 x4 x5 : Int32) (σ : Mem) : Option (Bool × Mem) :=
  bd2 (L_isOpen x1 x2 σ) fun r832 σ832 =>
  bd2 (X12_isOpen x1 x2 σ832) fun r850 σ850 =>
  bd (X12_thrown σ850) fun r856 =>
  if r856 = r832 then
    if r832 = 0 then
      if r850 = 0 then
        if (lg_cmp ((σ850 411 0).toInt64) ((0 : Int64))) = 0 then
          some (true, σ850)
        else
          some (false, σ850)
      else
        if (lg_cmp ((σ850 411 0).toInt64) ((1 : Int64))) = 0 then
          some (true, σ850)
        else
          some (false, σ850)
    else
      some (true, σ850)
  else
    some (false, σ850)

def lw_11 (x1 x2 x3 x4 x5 : Int32) (σ : Mem) : Option (Bool × Mem) :=
  bd2 (L_hours x1 σ) fun r901 σ901 =>
  bd2 (X12_hours x1 σ901) fun r913 σ913 =>
  bd (X12_thrown σ913) fun r919 =>
  if r919 = r901 then
    if r901 = 0 then
      if (lg_cmp ((σ913 411 0).toInt64) r913.toInt64) = 0 then
        some (true, σ913)
      else
        some (false, σ913)
    else
      some (true, σ913)
  else
    some (false, σ913)

def lw_12 (x1 x2 x3 x4 x5 : Int32) (σ : Mem) : Option (Bool × Mem) :=
  bd2 (L_heads x1 x2 σ) fun r963 σ963 =>
  bd2 (X12_heads x1 x2 σ963) fun r981 σ981 =>
  bd (X12_thrown σ981) fun r987 =>
  if r987 = r963 then
    if r963 = 0 then
      if (lg_cmp ((σ981 411 0).toInt64) r981.toInt64) = 0 then
        some (true, σ981)
      else
        some (false, σ981)
    else
      some (true, σ981)
  else
    some (false, σ981)

def lw_13 (x1 x2 x3 x4 x5 : Int32) (σ : Mem) : Option (Bool × Mem) :=
  bd2 (L_strike x1 σ) fun r1025 σ1025 =>
  bd2 (X12_strike x1 σ1025) fun r1037 σ1037 =>
  bd (X12_thrown σ1037) fun r1043 =>
  if r1043 = r1025 then
    if r1025 = 0 then
      if (lg_cmp ((σ1037 411 0).toInt64) r1037.toInt64) = 0 then
        some (true, σ1037)
      else
        some (false, σ1037)
    else
      some (true, σ1037)
  else
    some (false, σ1037)

def lw_14 (x1 x2 x3 x4 x5 : Int32) (σ : Mem) : Option (Bool × Mem) :=
  bd2 (L_snuff x1 σ) fun r1081 σ1081 =>
  bd2 (X12_snuff x1 σ1081) fun r1093 σ1093 =>
  bd (X12_thrown σ1093) fun r1099 =>
  if r1099 = r1081 then
    if r1081 = 0 then
      if (lg_cmp ((σ1093 411 0).toInt64) r1093.toInt64) = 0 then
        some (true, σ1093)
      else
        some (false, σ1093)
    else
      some (true, σ1093)
  else
    some (false, σ1093)

def lw_15 (x1 x2 x3 x4 x5 : Int32) (σ : Mem) : Option (Bool × Mem) :=
  bd2 (L_oil x1 x2 σ) fun r1143 σ1143 =>
  bd2 (X12_oil x1 x2 σ1143) fun r1161 σ1161 =>
  bd (X12_thrown σ1161) fun r1167 =>
  if r1167 = r1143 then
    if r1143 = 0 then
      if (lg_cmp ((σ1161 411 0).toInt64) r1161.toInt64) = 0 then
        some (true, σ1161)
      else
        some (false, σ1161)
    else
      some (true, σ1161)
  else
    some (false, σ1161)

def lw_16 (x1 x2 x3 x4 x5 : Int32) (σ : Mem) : Option (Bool × Mem) :=
  bd2 (L_taper x1 x2 σ) fun r1211 σ1211 =>
  bd2 (X12_taper x1 x2 σ1211) fun r1229 σ1229 =>
  bd (X12_thrown σ1229) fun r1235 =>
  if r1235 = r1211 then
    if r1211 = 0 then
      if (lg_cmp ((σ1229 411 0).toInt64) r1229.toInt64) = 0 then
        some (true, σ1229)
      else
        some (false, σ1229)
    else
      some (true, σ1229)
  else
    some (false, σ1229)

def lw_17 (x1 x2 x3 x4 x5 : Int32) (σ : Mem) : Option (Bool × Mem) :=
  bd2 (L_like x1 x2 x3 σ) fun r1285 σ1285 =>
  bd2 (X12_like x1 x2 x3 σ1285) fun r1309 σ1309 =>
  bd (X12_thrown σ1309) fun r1315 =>
  if r1315 = r1285 then
    if r1285 = 0 then
      if (lg_cmp ((σ1309 411 0).toInt64) r1309.toInt64) = 0 then
        some (true, σ1309)
      else
        some (false, σ1309)
    else
      some (true, σ1309)
  else
    some (false, σ1309)

def lw_18 (x1 x2 x3 x4 x5 : Int32) (σ : Mem) : Option (Bool × Mem) :=
  if x3 = 0 then
    bd2 (L_way x1 x2 0 σ) fun r1373 σ1373 =>
    if x3 = 0 then
      bd2 (X12_way x1 x2 0 σ1373) fun r1405 σ1405 =>
      bd (X12_thrown σ1405) fun r1411 =>
      if r1411 = r1373 then
        if r1373 = 0 then
          if r1405 = 0 then
            if (lg_cmp ((σ1405 411 0).toInt64) ((0 : Int64))) = 0 then
              some (true, σ1405)
            else
              some (false, σ1405)
          else
            if (lg_cmp ((σ1405 411 0).toInt64) ((1 : Int64))) = 0 then
              some (true, σ1405)
            else
              some (false, σ1405)
        else
          some (true, σ1405)
      else
        some (false, σ1405)
    else
      bd2 (X12_way x1 x2 1 σ1373) fun r1405 σ1405 =>
      bd (X12_thrown σ1405) fun r1411 =>
      if r1411 = r1373 then
        if r1373 = 0 then
          if r1405 = 0 then
            if (lg_cmp ((σ1405 411 0).toInt64) ((0 : Int64))) = 0 then
              some (true, σ1405)
            else
              some (false, σ1405)
          else
            if (lg_cmp ((σ1405 411 0).toInt64) ((1 : Int64))) = 0 then
              some (true, σ1405)
            else
              some (false, σ1405)
        else
          some (true, σ1405)
      else
        some (false, σ1405)
  else
    bd2 (L_way x1 x2 1 σ) fun r1373 σ1373 =>
    if x3 = 0 then
      bd2 (X12_way x1 x2 0 σ1373) fun r1405 σ1405 =>
      bd (X12_thrown σ1405) fun r1411 =>
      if r1411 = r1373 then
        if r1373 = 0 then
          if r1405 = 0 then
            if (lg_cmp ((σ1405 411 0).toInt64) ((0 : Int64))) = 0 then
              some (true, σ1405)
            else
              some (false, σ1405)
          else
            if (lg_cmp ((σ1405 411 0).toInt64) ((1 : Int64))) = 0 then
              some (true, σ1405)
            else
              some (false, σ1405)
        else
          some (true, σ1405)
      else
        some (false, σ1405)
    else
      bd2 (X12_way x1 x2 1 σ1373) fun r1405 σ1405 =>
      bd (X12_thrown σ1405) fun r1411 =>
      if r1411 = r1373 then
        if r1373 = 0 then
          if r1405 = 0 then
            if (lg_cmp ((σ1405 411 0).toInt64) ((0 : Int64))) = 0 then
              some (true, σ1405)
            else
              some (false, σ1405)
          else
            if (lg_cmp ((σ1405 411 0).toInt64) ((1 : Int64))) = 0 then
              some (true, σ1405)
            else
              some (false, σ1405)
        else
          some (true, σ1405)
      else
        some (false, σ1405)

def lw_19 (x1 x2 x3 x4 x5 : Int32) (σ : Mem) : Option (Bool × Mem) :=
  bd2 (L_far x1 x2 σ) fun r1462 σ1462 =>
  bd2 (X12_far x1 x2 σ1462) fun r1480 σ1480 =>
  bd (X12_thrown σ1480) fun r1486 =>
  if r1486 = r1462 then
    if r1462 = 0 then
      if (lg_cmp ((σ1480 411 0).toInt64) r1480.toInt64) = 0 then
        some (true, σ1480)
      else
        some (false, σ1480)
    else
      some (true, σ1480)
  else
    some (false, σ1480)

def lw_20 (x1 x2 x3 x4 x5 : Int32) (σ : Mem) : Option (Bool × Mem) :=
  bd2 (X11_out σ) fun r1517 σ1517 =>
  bd2 (X12_out σ1517) fun r1521 σ1521 =>
  if r1517 = r1521 then
    some (true, σ1521)
  else
    some (false, σ1521)

def lw_21 (x1 x2 x3 x4 x5 : Int32) (σ : Mem) : Option (Bool × Mem) :=
  bd2 (X11_spoon σ) fun r1530 σ1530 =>
  bd2 (X12_spoon σ1530) fun r1534 σ1534 =>
  if r1530 = r1534 then
    some (true, σ1534)
  else
    some (false, σ1534)

def lw_22 (x1 x2 x3 x4 x5 : Int32) (σ : Mem) : Option (Bool × Mem) :=
  bd2 (X11_never σ) fun r1543 σ1543 =>
  bd2 (X12_never σ1543) fun r1547 σ1547 =>
  if r1543 = r1547 then
    some (true, σ1547)
  else
    some (false, σ1547)

def lw_23 (x1 x2 x3 x4 x5 : Int32) (σ : Mem) : Option (Bool × Mem) :=
  if x2 = 0 then
    bd2 (L_round x1 0 σ) fun r1577 σ1577 =>
    if x2 = 0 then
      bd2 (X12_round x1 0 σ1577) fun r1603 σ1603 =>
      bd (X12_thrown σ1603) fun r1609 =>
      if r1609 = r1577 then
        if r1577 = 0 then
          if (lg_cmp ((σ1603 411 0).toInt64) r1603.toInt64) = 0 then
            some (true, σ1603)
          else
            some (false, σ1603)
        else
          some (true, σ1603)
      else
        some (false, σ1603)
    else
      bd2 (X12_round x1 1 σ1577) fun r1603 σ1603 =>
      bd (X12_thrown σ1603) fun r1609 =>
      if r1609 = r1577 then
        if r1577 = 0 then
          if (lg_cmp ((σ1603 411 0).toInt64) r1603.toInt64) = 0 then
            some (true, σ1603)
          else
            some (false, σ1603)
        else
          some (true, σ1603)
      else
        some (false, σ1603)
  else
    bd2 (L_round x1 1 σ) fun r1577 σ1577 =>
    if x2 = 0 then
      bd2 (X12_round x1 0 σ1577) fun r1603 σ1603 =>
      bd (X12_thrown σ1603) fun r1609 =>
      if r1609 = r1577 then
        if r1577 = 0 then
          if (lg_cmp ((σ1603 411 0).toInt64) r1603.toInt64) = 0 then
            some (true, σ1603)
          else
            some (false, σ1603)
        else
          some (true, σ1603)
      else
        some (false, σ1603)
    else
      bd2 (X12_round x1 1 σ1577) fun r1603 σ1603 =>
      bd (X12_thrown σ1603) fun r1609 =>
      if r1609 = r1577 then
        if r1577 = 0 then
          if (lg_cmp ((σ1603 411 0).toInt64) r1603.toInt64) = 0 then
            some (true, σ1603)
          else
            some (false, σ1603)
        else
          some (true, σ1603)
      else
        some (false, σ1603)

def lw_24 (x1 x2 x3 x4 x5 : Int32) (σ : Mem) : Option (Bool × Mem) :=
  bd (X11_beats σ) fun r1640 =>
  bd2 (X12_beats σ) fun r1644 σ1644 =>
  if r1640 = r1644 then
    some (true, σ1644)
  else
    some (false, σ1644)

def lw_25 (x1 x2 x3 x4 x5 : Int32) (σ : Mem) : Option (Bool × Mem) :=
  bd (X11_parts σ) fun r1653 =>
  bd2 (X12_parts σ) fun r1657 σ1657 =>
  if r1653 = r1657 then
    some (true, σ1657)
  else
    some (false, σ1657)

def lw_26 (x1 x2 x3 x4 x5 : Int32) (σ : Mem) : Option (Bool × Mem) :=
  bd (X11_bend σ) fun r1666 =>
  bd2 (X12_bend σ) fun r1670 σ1670 =>
  if r1666 = r1670 then
    some (true, σ1670)
  else
    some (false, σ1670)

def lw_27 (x1 x2 x3 x4 x5 : Int32) (σ : Mem) : Option (Bool × Mem) :=
  bd2 (L_closed x1 x2 σ) fun r1692 σ1692 =>
  bd2 (X12_closed x1 x2 σ1692) fun r1710 σ1710 =>
  bd (X12_thrown σ1710) fun r1716 =>
  if r1716 = r1692 then
    if r1692 = 0 then
      if (lg_cmp ((σ1710 411 0).toInt64) r1710.toInt64) = 0 then
        some (true, σ1710)
      else
        some (false, σ1710)
    else
      some (true, σ1710)
  else
    some (false, σ1710)

def lw_28 (x1 x2 x3 x4 x5 : Int32) (σ : Mem) : Option (Bool × Mem) :=
  bd2 (X11_madeUp σ) fun r1747 σ1747 =>
  bd2 (X12_madeUp σ1747) fun r1751 σ1751 =>
  if r1747 = r1751 then
    some (true, σ1751)
  else
    some (false, σ1751)

def lw_29 (x1 x2 x3 x4 x5 : Int32) (σ : Mem) : Option (Bool × Mem) :=
  bd2 (L_whoLit σ) fun r1761 σ1761 =>
  bd2 (X12_whoLit σ1761) fun r1767 σ1767 =>
  bd (X12_thrown σ1767) fun r1773 =>
  if r1773 = r1761 then
    if r1761 = 0 then
      if (lg_cmp ((σ1767 411 0).toInt64) r1767.toInt64) = 0 then
        some (true, σ1767)
      else
        some (false, σ1767)
    else
      some (true, σ1767)
  else
    some (false, σ1767)

def lw_30 (x1 x2 x3 x4 x5 : Int32) (σ : Mem) : Option (Bool × Mem) :=
  bd2 (L_ask σ) fun r1805 σ1805 =>
  bd2 (X12_ask σ1805) fun r1811 σ1811 =>
  bd (X12_thrown σ1811) fun r1817 =>
  if r1817 = r1805 then
    if r1805 = 0 then
      if (lg_cmp ((σ1811 411 0).toInt64) r1811.toInt64) = 0 then
        some (true, σ1811)
      else
        some (false, σ1811)
    else
      some (true, σ1811)
  else
    some (false, σ1811)

def lw_31 (x1 x2 x3 x4 x5 : Int32) (σ : Mem) : Option (Bool × Mem) :=
  bd2 (L_ring x1 σ) fun r1855 σ1855 =>
  bd2 (X12_ring x1 σ1855) fun r1867 σ1867 =>
  bd (X12_thrown σ1867) fun r1873 =>
  if r1873 = r1855 then
    if r1855 = 0 then
      if r1867 = 0 then
        if (lg_cmp ((σ1867 411 0).toInt64) ((0 : Int64))) = 0 then
          some (true, σ1867)
        else
          some (false, σ1867)
      else
        if (lg_cmp ((σ1867 411 0).toInt64) ((1 : Int64))) = 0 then
          some (true, σ1867)
        else
          some (false, σ1867)
    else
      some (true, σ1867)
  else
    some (false, σ1867)

def lw_32 (x1 x2 x3 x4 x5 : Int32) (σ : Mem) : Option (Bool × Mem) :=
  bd (X11_sides σ) fun r1911 =>
  bd2 (X12_sides σ) fun r1915 σ1915 =>
  if r1911 = r1915 then
    some (true, σ1915)
  else
    some (false, σ1915)

def lw_33 (x1 x2 x3 x4 x5 : Int32) (σ : Mem) : Option (Bool × Mem) :=
  bd2 (L_pairs x1 σ) fun r1931 σ1931 =>
  bd2 (X12_pairs x1 σ1931) fun r1943 σ1943 =>
  bd (X12_thrown σ1943) fun r1949 =>
  if r1949 = r1931 then
    if r1931 = 0 then
      if (lg_cmp ((σ1943 411 0).toInt64) r1943.toInt64) = 0 then
        some (true, σ1943)
      else
        some (false, σ1943)
    else
      some (true, σ1943)
  else
    some (false, σ1943)

def lw_34 (x1 x2 x3 x4 x5 : Int32) (σ : Mem) : Option (Bool × Mem) :=
  bd2 (L_learnt σ) fun r1981 σ1981 =>
  bd2 (X12_learnt σ1981) fun r1987 σ1987 =>
  bd (X12_thrown σ1987) fun r1993 =>
  if r1993 = r1981 then
    if r1981 = 0 then
      if (lg_cmp ((σ1987 411 0).toInt64) r1987.toInt64) = 0 then
        some (true, σ1987)
      else
        some (false, σ1987)
    else
      some (true, σ1987)
  else
    some (false, σ1987)

def lw_35 (x1 x2 x3 x4 x5 : Int32) (σ : Mem) : Option (Bool × Mem) :=
  bd2 (L_share x1 x2 σ) fun r2037 σ2037 =>
  bd2 (X12_share x1 x2 σ2037) fun r2055 σ2055 =>
  bd (X12_thrown σ2055) fun r2061 =>
  if r2061 = r2037 then
    if r2037 = 0 then
      if (lg_cmp ((σ2055 411 0).toInt64) r2055.toInt64) = 0 then
        some (true, σ2055)
      else
        some (false, σ2055)
    else
      some (true, σ2055)
  else
    some (false, σ2055)

def lw_36 (x1 x2 x3 x4 x5 : Int32) (σ : Mem) : Option (Bool × Mem) :=
  bd2 (L_rests x1 x2 σ) fun r2105 σ2105 =>
  bd2 (X12_rests x1 x2 σ2105) fun r2123 σ2123 =>
  bd (X12_thrown σ2123) fun r2129 =>
  if r2129 = r2105 then
    if r2105 = 0 then
      if (lg_cmp ((σ2123 411 0).toInt64) r2123.toInt64) = 0 then
        some (true, σ2123)
      else
        some (false, σ2123)
    else
      some (true, σ2123)
  else
    some (false, σ2123)

def lw_37 (x1 x2 x3 x4 x5 : Int32) (σ : Mem) : Option (Bool × Mem) :=
  bd2 (L_odds x1 x2 σ) fun r2173 σ2173 =>
  bd2 (X12_odds x1 x2 σ2173) fun r2191 σ2191 =>
  bd (X12_thrown σ2191) fun r2197 =>
  if r2197 = r2173 then
    if r2173 = 0 then
      if (lg_cmp ((σ2191 411 0).toInt64) r2191.toInt64) = 0 then
        some (true, σ2191)
      else
        some (false, σ2191)
    else
      some (true, σ2191)
  else
    some (false, σ2191)

def lw_38 (x1 x2 x3 x4 x5 : Int32) (σ : Mem) : Option (Bool × Mem) :=
  bd (X11_bright σ) fun r2228 =>
  bd2 (X12_bright σ) fun r2232 σ2232 =>
  if r2228 = r2232 then
    some (true, σ2232)
  else
    some (false, σ2232)

def lw_39 (x1 x2 x3 x4 x5 : Int32) (σ : Mem) : Option (Bool × Mem) :=
  bd (X11_gloom σ) fun r2241 =>
  bd2 (X12_gloom σ) fun r2245 σ2245 =>
  if r2241 = r2245 then
    some (true, σ2245)
  else
    some (false, σ2245)

def lw_40 (x1 x2 x3 x4 x5 : Int32) (σ : Mem) : Option (Bool × Mem) :=
  bd (X11_lamplighter σ) fun r2254 =>
  bd2 (X12_lamplighter σ) fun r2258 σ2258 =>
  if r2254 = r2258 then
    some (true, σ2258)
  else
    some (false, σ2258)

def lw_41 (x1 x2 x3 x4 x5 : Int32) (σ : Mem) : Option (Bool × Mem) :=
  bd (X11_spent σ) fun r2267 =>
  bd2 (X12_spent σ) fun r2271 σ2271 =>
  if r2267 = r2271 then
    some (true, σ2271)
  else
    some (false, σ2271)

def lw_42 (x1 x2 x3 x4 x5 : Int32) (σ : Mem) : Option (Bool × Mem) :=
  bd (X11_crowd σ) fun r2280 =>
  bd2 (X12_crowd σ) fun r2284 σ2284 =>
  if r2280 = r2284 then
    some (true, σ2284)
  else
    some (false, σ2284)

def lw_43 (x1 x2 x3 x4 x5 : Int32) (σ : Mem) : Option (Bool × Mem) :=
  bd (X11_alike σ) fun r2293 =>
  bd2 (X12_alike σ) fun r2297 σ2297 =>
  if r2293 = r2297 then
    some (true, σ2297)
  else
    some (false, σ2297)

def lw_44 (x1 x2 x3 x4 x5 : Int32) (σ : Mem) : Option (Bool × Mem) :=
  bd2 (L_ahead x1 x2 x3 σ) fun r2325 σ2325 =>
  bd2 (X12_ahead x1 x2 x3 σ2325) fun r2349 σ2349 =>
  bd (X12_thrown σ2349) fun r2355 =>
  if r2355 = r2325 then
    if r2325 = 0 then
      if (lg_cmp ((σ2349 411 0).toInt64) r2349.toInt64) = 0 then
        some (true, σ2349)
      else
        some (false, σ2349)
    else
      some (true, σ2349)
  else
    some (false, σ2349)

def lw_45 (x1 x2 x3 x4 x5 : Int32) (σ : Mem) : Option (Bool × Mem) :=
  if x2 = 0 then
    bd2 (L_trial x1 0 σ) fun r2407 σ2407 =>
    if x2 = 0 then
      bd2 (X12_trial x1 0 σ2407) fun r2433 σ2433 =>
      bd (X12_thrown σ2433) fun r2439 =>
      if r2439 = r2407 then
        if r2407 = 0 then
          if (lg_cmp ((σ2433 411 0).toInt64) r2433.toInt64) = 0 then
            some (true, σ2433)
          else
            some (false, σ2433)
        else
          some (true, σ2433)
      else
        some (false, σ2433)
    else
      bd2 (X12_trial x1 1 σ2407) fun r2433 σ2433 =>
      bd (X12_thrown σ2433) fun r2439 =>
      if r2439 = r2407 then
        if r2407 = 0 then
          if (lg_cmp ((σ2433 411 0).toInt64) r2433.toInt64) = 0 then
            some (true, σ2433)
          else
            some (false, σ2433)
        else
          some (true, σ2433)
      else
        some (false, σ2433)
  else
    bd2 (L_trial x1 1 σ) fun r2407 σ2407 =>
    if x2 = 0 then
      bd2 (X12_trial x1 0 σ2407) fun r2433 σ2433 =>
      bd (X12_thrown σ2433) fun r2439 =>
      if r2439 = r2407 then
        if r2407 = 0 then
          if (lg_cmp ((σ2433 411 0).toInt64) r2433.toInt64) = 0 then
            some (true, σ2433)
          else
            some (false, σ2433)
        else
          some (true, σ2433)
      else
        some (false, σ2433)
    else
      bd2 (X12_trial x1 1 σ2407) fun r2433 σ2433 =>
      bd (X12_thrown σ2433) fun r2439 =>
      if r2439 = r2407 then
        if r2407 = 0 then
          if (lg_cmp ((σ2433 411 0).toInt64) r2433.toInt64) = 0 then
            some (true, σ2433)
          else
            some (false, σ2433)
        else
          some (true, σ2433)
      else
        some (false, σ2433)

def lw_46 (x1 x2 x3 x4 x5 : Int32) (σ : Mem) : Option (Bool × Mem) :=
  if x2 = 0 then
    bd2 (L_span x1 0 σ) fun r2491 σ2491 =>
    if x2 = 0 then
      bd2 (X12_span x1 0 σ2491) fun r2517 σ2517 =>
      bd (X12_thrown σ2517) fun r2523 =>
      if r2523 = r2491 then
        if r2491 = 0 then
          if (lg_cmp ((σ2517 411 0).toInt64) r2517.toInt64) = 0 then
            some (true, σ2517)
          else
            some (false, σ2517)
        else
          some (true, σ2517)
      else
        some (false, σ2517)
    else
      bd2 (X12_span x1 1 σ2491) fun r2517 σ2517 =>
      bd (X12_thrown σ2517) fun r2523 =>
      if r2523 = r2491 then
        if r2491 = 0 then
          if (lg_cmp ((σ2517 411 0).toInt64) r2517.toInt64) = 0 then
            some (true, σ2517)
          else
            some (false, σ2517)
        else
          some (true, σ2517)
      else
        some (false, σ2517)
  else
    bd2 (L_span x1 1 σ) fun r2491 σ2491 =>
    if x2 = 0 then
      bd2 (X12_span x1 0 σ2491) fun r2517 σ2517 =>
      bd (X12_thrown σ2517) fun r2523 =>
      if r2523 = r2491 then
        if r2491 = 0 then
          if (lg_cmp ((σ2517 411 0).toInt64) r2517.toInt64) = 0 then
            some (true, σ2517)
          else
            some (false, σ2517)
        else
          some (true, σ2517)
      else
        some (false, σ2517)
    else
      bd2 (X12_span x1 1 σ2491) fun r2517 σ2517 =>
      bd (X12_thrown σ2517) fun r2523 =>
      if r2523 = r2491 then
        if r2491 = 0 then
          if (lg_cmp ((σ2517 411 0).toInt64) r2517.toInt64) = 0 then
            some (true, σ2517)
          else
            some (false, σ2517)
        else
          some (true, σ2517)
      else
        some (false, σ2517)

def lw_47 (x1 x2 x3 x4 x5 : Int32) (σ : Mem) : Option (Bool × Mem) :=
  if x2 = 0 then
    bd2 (L_led x1 0 σ) fun r2575 σ2575 =>
    if x2 = 0 then
      bd2 (X12_led x1 0 σ2575) fun r2601 σ2601 =>
      bd (X12_thrown σ2601) fun r2607 =>
      if r2607 = r2575 then
        if r2575 = 0 then
          if (lg_cmp ((σ2601 411 0).toInt64) r2601.toInt64) = 0 then
            some (true, σ2601)
          else
            some (false, σ2601)
        else
          some (true, σ2601)
      else
        some (false, σ2601)
    else
      bd2 (X12_led x1 1 σ2575) fun r2601 σ2601 =>
      bd (X12_thrown σ2601) fun r2607 =>
      if r2607 = r2575 then
        if r2575 = 0 then
          if (lg_cmp ((σ2601 411 0).toInt64) r2601.toInt64) = 0 then
            some (true, σ2601)
          else
            some (false, σ2601)
        else
          some (true, σ2601)
      else
        some (false, σ2601)
  else
    bd2 (L_led x1 1 σ) fun r2575 σ2575 =>
    if x2 = 0 then
      bd2 (X12_led x1 0 σ2575) fun r2601 σ2601 =>
      bd (X12_thrown σ2601) fun r2607 =>
      if r2607 = r2575 then
        if r2575 = 0 then
          if (lg_cmp ((σ2601 411 0).toInt64) r2601.toInt64) = 0 then
            some (true, σ2601)
          else
            some (false, σ2601)
        else
          some (true, σ2601)
      else
        some (false, σ2601)
    else
      bd2 (X12_led x1 1 σ2575) fun r2601 σ2601 =>
      bd (X12_thrown σ2601) fun r2607 =>
      if r2607 = r2575 then
        if r2575 = 0 then
          if (lg_cmp ((σ2601 411 0).toInt64) r2601.toInt64) = 0 then
            some (true, σ2601)
          else
            some (false, σ2601)
        else
          some (true, σ2601)
      else
        some (false, σ2601)

def lw_48 (x1 x2 x3 x4 x5 : Int32) (σ : Mem) : Option (Bool × Mem) :=
  bd2 (L_log x1 x2 σ) fun r2651 σ2651 =>
  bd2 (X12_log x1 x2 σ2651) fun r2669 σ2669 =>
  bd (X12_thrown σ2669) fun r2675 =>
  if r2675 = r2651 then
    if r2651 = 0 then
      if (lg_cmp ((σ2669 411 0).toInt64) r2669.toInt64) = 0 then
        some (true, σ2669)
      else
        some (false, σ2669)
    else
      some (true, σ2669)
  else
    some (false, σ2669)

def lw_49 (x1 x2 x3 x4 x5 : Int32) (σ : Mem) : Option (Bool × Mem) :=
  bd2 (X11_seed x1 σ) fun r2712 σ2712 =>
  bd2 (X12_seed x1 σ2712) fun r2722 σ2722 =>
  if r2712 = r2722 then
    some (true, σ2722)
  else
    some (false, σ2722)

def lw_50 (x1 x2 x3 x4 x5 : Int32) (σ : Mem) : Option (Bool × Mem) :=
  bd2 (X11_undo σ) fun r2731 σ2731 =>
  bd2 (X12_undo σ2731) fun r2735 σ2735 =>
  if r2731 = r2735 then
    some (true, σ2735)
  else
    some (false, σ2735)

def lw_51 (x1 x2 x3 x4 x5 : Int32) (σ : Mem) : Option (Bool × Mem) :=
  bd (X11_image σ) fun σ2744 =>
  bd (X12_image σ2744) fun σ2748 =>
  some (true, σ2748)

def lw_52 (x1 x2 x3 x4 x5 : Int32) (σ : Mem) : Option (Bool × Mem) :=
  bd2 (X11_back σ) fun r2755 σ2755 =>
  bd2 (X12_back σ2755) fun r2759 σ2759 =>
  if r2755 = r2759 then
    some (true, σ2759)
  else
    some (false, σ2759)

def lw_53 (x1 x2 x3 x4 x5 : Int32) (σ : Mem) : Option (Bool × Mem) :=
  bd (X11_count σ x1) fun r2774 =>
  bd2 (X12_count x1 σ) fun r2784 σ2784 =>
  if r2774 = r2784 then
    some (true, σ2784)
  else
    some (false, σ2784)

section LAWC
variable {p : Program} {l : Launch} {e : Env} {s : State} {m : MethodId} {args : Array Value} {below : List Frame} {meth : Method} {c : Code} {H : Heap} {locs : List Loc} {cells slots : Nat} {Q : State → Prop} {ls : Array Slot} {E : GE} {σ σ' : Mem} {b L : Nat} {xs : Nat → Int32} {i : Int32}
theorem lwc_0 (C : Cx p s m args meth c cL_law_ (some .boolean) 7 "PaneStreetLaw") (G : Gf E s) (hT : l.stackTraces = false) {x1 x2 x3 x4 x5 : Int32} (h : lw_0 x1 x2 x3 x4 x5 σ = some (true, σ')) (X : Hx E σ s H locs) (hl : lv_has ls 7 (LwL E b i)) (hX : va_X b L xs s s.heap) (hb : b < s.heap.size) (hbA : ¬ Fr E b) (q1 : LwX L xs (i + 1) x1) (q2 : LwX L xs (i + 2) x2) (q3 : LwX L xs (i + 3) x3) (q4 : LwX L xs (i + 4) x4) (q5 : LwX L xs (i + 5) x5) (hcc : cells ≤ 4000) (hss : slots ≤ 100000)
    (kk : ∀ (H1 : Heap) (locs1 : List Loc) (ls1 : Array Slot), lv_has ls1 7 (LwL E b i) → Hx E σ' s H1 locs1 → W p l e room_1 s m args below meth c H1 locs1 (cells + 4) (slots + 24) Q (F0 m 2792 ls1 [])) : W p l e room_1 s m args below meth c H locs cells slots Q (F0 m 272 ls []) := by
  unfold lw_0 at h
  unfold LwL at hl
  refine lv_aload_n C.1 C.2.1 dL_law__272 rfl (lv_at hl 1 rfl) ?_
  refine lv_aload_n C.1 C.2.1 dL_law__273 rfl (lv_at hl 0 rfl) ?_
  refine lv_iload C.1 C.2.1 dL_law__274 (lv_at hl 4 rfl) ?_
  refine lv_iconst (v := 1) C.1 C.2.1 dL_law__276 (by decide) ?_
  refine lv_iadd C.1 C.2.1 dL_law__277 ?_
  refine xld C X hX hb hbA q1 dL_law__278 ?_
  refine lv_aload_n C.1 C.2.1 dL_law__279 rfl (lv_at hl 0 rfl) ?_
  refine lv_iload C.1 C.2.1 dL_law__280 (lv_at hl 4 rfl) ?_
  refine lv_iconst (v := 2) C.1 C.2.1 dL_law__282 (by decide) ?_
  refine lv_iadd C.1 C.2.1 dL_law__283 ?_
  refine xld C X hX hb hbA q2 dL_law__284 ?_
  refine lv_aload_n C.1 C.2.1 dL_law__285 rfl (lv_at hl 0 rfl) ?_
  refine lv_iload C.1 C.2.1 dL_law__286 (lv_at hl 4 rfl) ?_
  refine lv_iconst (v := 3) C.1 C.2.1 dL_law__288 (by decide) ?_
  refine lv_iadd C.1 C.2.1 dL_law__289 ?_
  refine xld C X hX hb hbA q3 dL_law__290 ?_
  refine lv_aload_n C.1 C.2.1 dL_law__291 rfl (lv_at hl 0 rfl) ?_
  refine lv_iload C.1 C.2.1 dL_law__292 (lv_at hl 4 rfl) ?_
  refine lv_iconst (v := 4) C.1 C.2.1 dL_law__294 (by decide) ?_
  refine lv_iadd C.1 C.2.1 dL_law__295 ?_
  refine xld C X hX hb hbA q4 dL_law__296 ?_
  refine lv_aload_n C.1 C.2.1 dL_law__297 rfl (lv_at hl 0 rfl) ?_
  refine lv_iload C.1 C.2.1 dL_law__298 (lv_at hl 4 rfl) ?_
  refine lv_iconst (v := 5) C.1 C.2.1 dL_law__300 (by decide) ?_
  refine lv_iadd C.1 C.2.1 dL_law__301 ?_
  refine xld C X hX hb hbA q5 dL_law__302 ?_
  obtain ⟨r303, σ303, e303, h⟩ := bnd2 h
  refine afI (r0 := r303) (σ' := σ303) X (runV C G X q_X11_feed k_443 k_444 k_442 (rcX11 G X kd_0) (c_X11_feed l E e303) rfl hl.1 rfl (Nat.le_of_ble_eq_true rfl) ⟨Nat.le_of_ble_eq_true rfl, Nat.le_of_ble_eq_true rfl⟩ ⟨by show _ ≤ 601024; omega, by show _ ≤ 7293034; omega⟩ dL_law__303) (fun H locs X => ?_)
  refine lv_aload_n C.1 C.2.1 dL_law__306 rfl (lv_at hl 2 rfl) ?_
  refine lv_aload_n C.1 C.2.1 dL_law__307 rfl (lv_at hl 0 rfl) ?_
  refine lv_iload C.1 C.2.1 dL_law__308 (lv_at hl 4 rfl) ?_
  refine lv_iconst (v := 1) C.1 C.2.1 dL_law__310 (by decide) ?_
  refine lv_iadd C.1 C.2.1 dL_law__311 ?_
  refine xld C X hX hb hbA q1 dL_law__312 ?_
  refine lv_aload_n C.1 C.2.1 dL_law__313 rfl (lv_at hl 0 rfl) ?_
  refine lv_iload C.1 C.2.1 dL_law__314 (lv_at hl 4 rfl) ?_
  refine lv_iconst (v := 2) C.1 C.2.1 dL_law__316 (by decide) ?_
  refine lv_iadd C.1 C.2.1 dL_law__317 ?_
  refine xld C X hX hb hbA q2 dL_law__318 ?_
  refine lv_aload_n C.1 C.2.1 dL_law__319 rfl (lv_at hl 0 rfl) ?_
  refine lv_iload C.1 C.2.1 dL_law__320 (lv_at hl 4 rfl) ?_
  refine lv_iconst (v := 3) C.1 C.2.1 dL_law__322 (by decide) ?_
  refine lv_iadd C.1 C.2.1 dL_law__323 ?_
  refine xld C X hX hb hbA q3 dL_law__324 ?_
  refine lv_aload_n C.1 C.2.1 dL_law__325 rfl (lv_at hl 0 rfl) ?_
  refine lv_iload C.1 C.2.1 dL_law__326 (lv_at hl 4 rfl) ?_
  refine lv_iconst (v := 4) C.1 C.2.1 dL_law__328 (by decide) ?_
  refine lv_iadd C.1 C.2.1 dL_law__329 ?_
  refine xld C X hX hb hbA q4 dL_law__330 ?_
  refine lv_aload_n C.1 C.2.1 dL_law__331 rfl (lv_at hl 0 rfl) ?_
  refine lv_iload C.1 C.2.1 dL_law__332 (lv_at hl 4 rfl) ?_
  refine lv_iconst (v := 5) C.1 C.2.1 dL_law__334 (by decide) ?_
  refine lv_iadd C.1 C.2.1 dL_law__335 ?_
  refine xld C X hX hb hbA q5 dL_law__336 ?_
  obtain ⟨r337, σ337, e337, h⟩ := bnd2 h
  refine afI (r0 := r337) (σ' := σ337) X (runV C G X q_X12_feed k_1726 k_1727 k_1725 (rcX12 G X kd_399) (c_X12_feed l E e337) rfl hl.1 rfl (Nat.le_of_ble_eq_true rfl) ⟨Nat.le_of_ble_eq_true rfl, Nat.le_of_ble_eq_true rfl⟩ ⟨by show _ ≤ 601024; omega, by show _ ≤ 7293034; omega⟩ dL_law__337) (fun H locs X => ?_)
  refine lv_icmp_eq (tgt := 2792) C.1 C.2.1 dL_law__340 (by decide) (fun c340 => ?_) (fun c340 => ?_)
  · replace h := ipos c340 h
    cases h
    refine W.widen (k := cells + 4) (n := slots + 24) (by omega) (by omega) ?_
    exact kk H locs ls (lw_sub hl (by simp [LwL])) X
  · replace h := ineg c340 h
    refine lv_iconst (v := 0) C.1 C.2.1 dL_law__343 (by decide) ?_
    cases h
theorem lwc_1 (C : Cx p s m args meth c cL_law_ (some .boolean) 7 "PaneStreetLaw") (G : Gf E s) (hT : l.stackTraces = false) {x1 x2 x3 x4 x5 : Int32} (h : lw_1 x1 x2 x3 x4 x5 σ = some (true, σ')) (X : Hx E σ s H locs) (hl : lv_has ls 7 (LwL E b i)) (hX : va_X b L xs s s.heap) (hb : b < s.heap.size) (hbA : ¬ Fr E b) (q1 : LwX L xs (i + 1) x1) (q2 : LwX L xs (i + 2) x2) (q3 : LwX L xs (i + 3) x3) (q4 : LwX L xs (i + 4) x4) (q5 : LwX L xs (i + 5) x5) (hcc : cells ≤ 4000) (hss : slots ≤ 100000)
    (kk : ∀ (H1 : Heap) (locs1 : List Loc) (ls1 : Array Slot), lv_has ls1 7 (LwL E b i) → Hx E σ' s H1 locs1 → W p l e room_1 s m args below meth c H1 locs1 (cells + 4) (slots + 24) Q (F0 m 2792 ls1 [])) : W p l e room_1 s m args below meth c H locs cells slots Q (F0 m 345 ls []) := by
  unfold lw_1 at h
  unfold LwL at hl
  refine lv_aload_n C.1 C.2.1 dL_law__345 rfl (lv_at hl 1 rfl) ?_
  refine lv_aload_n C.1 C.2.1 dL_law__346 rfl (lv_at hl 0 rfl) ?_
  refine lv_iload C.1 C.2.1 dL_law__347 (lv_at hl 4 rfl) ?_
  refine lv_iconst (v := 1) C.1 C.2.1 dL_law__349 (by decide) ?_
  refine lv_iadd C.1 C.2.1 dL_law__350 ?_
  refine xld C X hX hb hbA q1 dL_law__351 ?_
  obtain ⟨r352, σ352, e352, h⟩ := bnd2 h
  refine afI (r0 := r352) (σ' := σ352) X (runV C G X q_X11_end k_455 k_456 k_454 (rcX11 G X kd_0) (c_X11_end l E e352) rfl hl.1 rfl (Nat.le_of_ble_eq_true rfl) ⟨Nat.le_of_ble_eq_true rfl, Nat.le_of_ble_eq_true rfl⟩ ⟨by show _ ≤ 601024; omega, by show _ ≤ 7293034; omega⟩ dL_law__352) (fun H locs X => ?_)
  refine lv_aload_n C.1 C.2.1 dL_law__355 rfl (lv_at hl 2 rfl) ?_
  refine lv_aload_n C.1 C.2.1 dL_law__356 rfl (lv_at hl 0 rfl) ?_
  refine lv_iload C.1 C.2.1 dL_law__357 (lv_at hl 4 rfl) ?_
  refine lv_iconst (v := 1) C.1 C.2.1 dL_law__359 (by decide) ?_
  refine lv_iadd C.1 C.2.1 dL_law__360 ?_
  refine xld C X hX hb hbA q1 dL_law__361 ?_
  obtain ⟨r362, σ362, e362, h⟩ := bnd2 h
  refine afI (r0 := r362) (σ' := σ362) X (runV C G X q_X12_end k_1730 k_1731 k_1729 (rcX12 G X kd_399) (c_X12_end l E e362) rfl hl.1 rfl (Nat.le_of_ble_eq_true rfl) ⟨Nat.le_of_ble_eq_true rfl, Nat.le_of_ble_eq_true rfl⟩ ⟨by show _ ≤ 601024; omega, by show _ ≤ 7293034; omega⟩ dL_law__362) (fun H locs X => ?_)
  refine lv_icmp_eq (tgt := 2792) C.1 C.2.1 dL_law__365 (by decide) (fun c365 => ?_) (fun c365 => ?_)
  · replace h := ipos c365 h
    cases h
    refine W.widen (k := cells + 4) (n := slots + 24) (by omega) (by omega) ?_
    exact kk H locs ls (lw_sub hl (by simp [LwL])) X
  · replace h := ineg c365 h
    refine lv_iconst (v := 0) C.1 C.2.1 dL_law__368 (by decide) ?_
    cases h
theorem lwc_2 (C : Cx p s m args meth c cL_law_ (some .boolean) 7 "PaneStreetLaw") (G : Gf E s) (hT : l.stackTraces = false) {x1 x2 x3 x4 x5 : Int32} (h : lw_2 x1 x2 x3 x4 x5 σ = some (true, σ')) (X : Hx E σ s H locs) (hl : lv_has ls 7 (LwL E b i)) (hX : va_X b L xs s s.heap) (hb : b < s.heap.size) (hbA : ¬ Fr E b) (q1 : LwX L xs (i + 1) x1) (q2 : LwX L xs (i + 2) x2) (q3 : LwX L xs (i + 3) x3) (q4 : LwX L xs (i + 4) x4) (q5 : LwX L xs (i + 5) x5) (hcc : cells ≤ 4000) (hss : slots ≤ 100000)
    (kk : ∀ (H1 : Heap) (locs1 : List Loc) (ls1 : Array Slot), lv_has ls1 7 (LwL E b i) → Hx E σ' s H1 locs1 → W p l e room_1 s m args below meth c H1 locs1 (cells + 4) (slots + 24) Q (F0 m 2792 ls1 [])) : W p l e room_1 s m args below meth c H locs cells slots Q (F0 m 370 ls []) := by
  unfold lw_2 at h
  unfold LwL at hl
  refine lv_aload_n C.1 C.2.1 dL_law__370 rfl (lv_at hl 1 rfl) ?_
  refine lv_aload_n C.1 C.2.1 dL_law__371 rfl (lv_at hl 3 rfl) ?_
  obtain ⟨r372, σ372, e372, h⟩ := bnd2 h
  refine afW (r0 := r372) (σ' := σ372) X (runSW_ (n := 2) C G X k_796 k_103 (by decide +kernel) k_795 k_794 (c_L_street l E hT e372) rfl hl.1 rfl (Nat.le_of_ble_eq_true rfl) ⟨Nat.le_of_ble_eq_true rfl, Nat.le_of_ble_eq_true rfl⟩ ⟨by show _ ≤ 601024; omega, by show _ ≤ 7293034; omega⟩ dL_law__372) (fun H locs X => ?_)
  refine lv_istore (lv' := [(5, .int r372), (0, .ref b), (1, .ref (gB E + 0)), (2, .ref (gB E + 399)), (3, .ref (gB E + 411)), (4, .int i)]) C.1 C.2.1 dL_law__375 hl (by decide) rfl (fun ls hl => ?_)
  refine lv_aload_n C.1 C.2.1 dL_law__377 rfl (lv_at hl 3 rfl) ?_
  obtain ⟨r378, σ378, e378, h⟩ := bnd2 h
  refine afI (r0 := r378) (σ' := σ378) X (runV C G X q_X12_street k_1737 k_1738 k_1736 (rcX12 G X kd_399) (c_X12_street l E e378) rfl hl.1 rfl (Nat.le_of_ble_eq_true rfl) ⟨Nat.le_of_ble_eq_true rfl, Nat.le_of_ble_eq_true rfl⟩ ⟨by show _ ≤ 601024; omega, by show _ ≤ 7293034; omega⟩ dL_law__378) (fun H locs X => ?_)
  refine lv_istore (lv' := [(6, .int r378), (5, .int r372), (0, .ref b), (1, .ref (gB E + 0)), (2, .ref (gB E + 399)), (3, .ref (gB E + 411)), (4, .int i)]) C.1 C.2.1 dL_law__381 hl (by decide) rfl (fun ls hl => ?_)
  refine lv_aload_n C.1 C.2.1 dL_law__383 rfl (lv_at hl 4 rfl) ?_
  obtain ⟨r384, e384, h⟩ := bnd h
  refine afI X (runV C G X q_X12_thrown k_1722 k_1723 k_1721 (rcX12 G X kd_399) (c_X12_thrown l E e384) rfl hl.1 rfl (Nat.le_of_ble_eq_true rfl) ⟨Nat.le_of_ble_eq_true rfl, Nat.le_of_ble_eq_true rfl⟩ ⟨by show _ ≤ 601024; omega, by show _ ≤ 7293034; omega⟩ dL_law__384) (fun H locs X => ?_)
  refine lv_iload C.1 C.2.1 dL_law__387 (lv_at hl 1 rfl) ?_
  refine lv_icmp_eq (tgt := 394) C.1 C.2.1 dL_law__389 (by decide) (fun c389 => ?_) (fun c389 => ?_)
  · replace h := ipos c389 h
    refine lv_iload C.1 C.2.1 dL_law__394 (lv_at hl 1 rfl) ?_
    refine lv_if_ne (tgt := 411) C.1 C.2.1 dL_law__396 (by decide) (fun c396 => ?_) (fun c396 => ?_)
    · replace h := ineg c396 h
      refine lv_goto (tgt := 2792) C.1 C.2.1 dL_law__411 (by decide) ?_
      cases h
      refine W.widen (k := cells + 4) (n := slots + 24) (by omega) (by omega) ?_
      exact kk H locs ls (lw_sub hl (by simp [LwL])) X
    · replace h := ipos c396 h
      refine lv_aload_n C.1 C.2.1 dL_law__399 rfl (lv_at hl 5 rfl) ?_
      refine lv_iconst (v := 0) C.1 C.2.1 dL_law__400 (by decide) ?_
      refine ald_o C G X (k := 411) kd411 in411 dL_law__401 ?_
      refine lv_iload C.1 C.2.1 dL_law__402 (lv_at hl 0 rfl) ?_
      refine lv_i2l C.1 C.2.1 dL_law__404 rfl ?_
      refine W.lcmp C.1 C.2.1 dL_law__405 ?_
      refine lv_if_eq (tgt := 411) C.1 C.2.1 dL_law__406 (by decide) (fun c406 => ?_) (fun c406 => ?_)
      · replace h := ipos c406 h
        refine lv_goto (tgt := 2792) C.1 C.2.1 dL_law__411 (by decide) ?_
        cases h
        refine W.widen (k := cells + 4) (n := slots + 24) (by omega) (by omega) ?_
        exact kk H locs ls (lw_sub hl (by simp [LwL])) X
      · replace h := ineg c406 h
        refine lv_iconst (v := 0) C.1 C.2.1 dL_law__409 (by decide) ?_
        cases h
  · replace h := ineg c389 h
    refine lv_iconst (v := 0) C.1 C.2.1 dL_law__392 (by decide) ?_
    cases h
theorem lwc_3 (C : Cx p s m args meth c cL_law_ (some .boolean) 7 "PaneStreetLaw") (G : Gf E s) (hT : l.stackTraces = false) {x1 x2 x3 x4 x5 : Int32} (h : lw_3 x1 x2 x3 x4 x5 σ = some (true, σ')) (X : Hx E σ s H locs) (hl : lv_has ls 7 (LwL E b i)) (hX : va_X b L xs s s.heap) (hb : b < s.heap.size) (hbA : ¬ Fr E b) (q1 : LwX L xs (i + 1) x1) (q2 : LwX L xs (i + 2) x2) (q3 : LwX L xs (i + 3) x3) (q4 : LwX L xs (i + 4) x4) (q5 : LwX L xs (i + 5) x5) (hcc : cells ≤ 4000) (hss : slots ≤ 100000)
    (kk : ∀ (H1 : Heap) (locs1 : List Loc) (ls1 : Array Slot), lv_has ls1 7 (LwL E b i) → Hx E σ' s H1 locs1 → W p l e room_1 s m args below meth c H1 locs1 (cells + 4) (slots + 24) Q (F0 m 2792 ls1 [])) : W p l e room_1 s m args below meth c H locs cells slots Q (F0 m 414 ls []) := by
  unfold lw_3 at h
  unfold LwL at hl
  refine lv_aload_n C.1 C.2.1 dL_law__414 rfl (lv_at hl 1 rfl) ?_
  refine lv_aload_n C.1 C.2.1 dL_law__415 rfl (lv_at hl 3 rfl) ?_
  obtain ⟨r416, σ416, e416, h⟩ := bnd2 h
  refine afW (r0 := r416) (σ' := σ416) X (runSW_ (n := 2) C G X k_1073 k_103 (by decide +kernel) k_1072 k_1071 (c_L_law l E hT e416) rfl hl.1 rfl (Nat.le_of_ble_eq_true rfl) ⟨Nat.le_of_ble_eq_true rfl, Nat.le_of_ble_eq_true rfl⟩ ⟨by show _ ≤ 601024; omega, by show _ ≤ 7293034; omega⟩ dL_law__416) (fun H locs X => ?_)
  refine lv_istore (lv' := [(5, .int r416), (0, .ref b), (1, .ref (gB E + 0)), (2, .ref (gB E + 399)), (3, .ref (gB E + 411)), (4, .int i)]) C.1 C.2.1 dL_law__419 hl (by decide) rfl (fun ls hl => ?_)
  refine lv_aload_n C.1 C.2.1 dL_law__421 rfl (lv_at hl 3 rfl) ?_
  obtain ⟨r422, σ422, e422, h⟩ := bnd2 h
  refine afI (r0 := r422) (σ' := σ422) X (runV C G X q_X12_law k_1878 k_1879 k_1877 (rcX12 G X kd_399) (c_X12_law l E e422) rfl hl.1 rfl (Nat.le_of_ble_eq_true rfl) ⟨Nat.le_of_ble_eq_true rfl, Nat.le_of_ble_eq_true rfl⟩ ⟨by show _ ≤ 601024; omega, by show _ ≤ 7293034; omega⟩ dL_law__422) (fun H locs X => ?_)
  refine lv_istore (lv' := [(6, .int r422), (5, .int r416), (0, .ref b), (1, .ref (gB E + 0)), (2, .ref (gB E + 399)), (3, .ref (gB E + 411)), (4, .int i)]) C.1 C.2.1 dL_law__425 hl (by decide) rfl (fun ls hl => ?_)
  refine lv_aload_n C.1 C.2.1 dL_law__427 rfl (lv_at hl 4 rfl) ?_
  obtain ⟨r428, e428, h⟩ := bnd h
  refine afI X (runV C G X q_X12_thrown k_1722 k_1723 k_1721 (rcX12 G X kd_399) (c_X12_thrown l E e428) rfl hl.1 rfl (Nat.le_of_ble_eq_true rfl) ⟨Nat.le_of_ble_eq_true rfl, Nat.le_of_ble_eq_true rfl⟩ ⟨by show _ ≤ 601024; omega, by show _ ≤ 7293034; omega⟩ dL_law__428) (fun H locs X => ?_)
  refine lv_iload C.1 C.2.1 dL_law__431 (lv_at hl 1 rfl) ?_
  refine lv_icmp_eq (tgt := 438) C.1 C.2.1 dL_law__433 (by decide) (fun c433 => ?_) (fun c433 => ?_)
  · replace h := ipos c433 h
    refine lv_iload C.1 C.2.1 dL_law__438 (lv_at hl 1 rfl) ?_
    refine lv_if_ne (tgt := 455) C.1 C.2.1 dL_law__440 (by decide) (fun c440 => ?_) (fun c440 => ?_)
    · replace h := ineg c440 h
      refine lv_goto (tgt := 2792) C.1 C.2.1 dL_law__455 (by decide) ?_
      cases h
      refine W.widen (k := cells + 4) (n := slots + 24) (by omega) (by omega) ?_
      exact kk H locs ls (lw_sub hl (by simp [LwL])) X
    · replace h := ipos c440 h
      refine lv_aload_n C.1 C.2.1 dL_law__443 rfl (lv_at hl 5 rfl) ?_
      refine lv_iconst (v := 0) C.1 C.2.1 dL_law__444 (by decide) ?_
      refine ald_o C G X (k := 411) kd411 in411 dL_law__445 ?_
      refine lv_iload C.1 C.2.1 dL_law__446 (lv_at hl 0 rfl) ?_
      refine lv_i2l C.1 C.2.1 dL_law__448 rfl ?_
      refine W.lcmp C.1 C.2.1 dL_law__449 ?_
      refine lv_if_eq (tgt := 455) C.1 C.2.1 dL_law__450 (by decide) (fun c450 => ?_) (fun c450 => ?_)
      · replace h := ipos c450 h
        refine lv_goto (tgt := 2792) C.1 C.2.1 dL_law__455 (by decide) ?_
        cases h
        refine W.widen (k := cells + 4) (n := slots + 24) (by omega) (by omega) ?_
        exact kk H locs ls (lw_sub hl (by simp [LwL])) X
      · replace h := ineg c450 h
        refine lv_iconst (v := 0) C.1 C.2.1 dL_law__453 (by decide) ?_
        cases h
  · replace h := ineg c433 h
    refine lv_iconst (v := 0) C.1 C.2.1 dL_law__436 (by decide) ?_
    cases h
theorem lwc_4 (C : Cx p s m args meth c cL_law_ (some .boolean) 7 "PaneStreetLaw") (G : Gf E s) (hT : l.stackTraces = false) {x1 x2 x3 x4 x5 : Int32} (h : lw_4 x1 x2 x3 x4 x5 σ = some (true, σ')) (X : Hx E σ s H locs) (hl : lv_has ls 7 (LwL E b i)) (hX : va_X b L xs s s.heap) (hb : b < s.heap.size) (hbA : ¬ Fr E b) (q1 : LwX L xs (i + 1) x1) (q2 : LwX L xs (i + 2) x2) (q3 : LwX L xs (i + 3) x3) (q4 : LwX L xs (i + 4) x4) (q5 : LwX L xs (i + 5) x5) (hcc : cells ≤ 4000) (hss : slots ≤ 100000)
    (kk : ∀ (H1 : Heap) (locs1 : List Loc) (ls1 : Array Slot), lv_has ls1 7 (LwL E b i) → Hx E σ' s H1 locs1 → W p l e room_1 s m args below meth c H1 locs1 (cells + 4) (slots + 24) Q (F0 m 2792 ls1 [])) : W p l e room_1 s m args below meth c H locs cells slots Q (F0 m 458 ls []) := by
  unfold lw_4 at h
  unfold LwL at hl
  refine lv_aload_n C.1 C.2.1 dL_law__458 rfl (lv_at hl 1 rfl) ?_
  obtain ⟨r459, e459, h⟩ := bnd h
  refine afI X (runV C G X q_X11_fault k_459 k_460 k_458 (rcX11 G X kd_0) (c_X11_fault l E e459) rfl hl.1 rfl (Nat.le_of_ble_eq_true rfl) ⟨Nat.le_of_ble_eq_true rfl, Nat.le_of_ble_eq_true rfl⟩ ⟨by show _ ≤ 601024; omega, by show _ ≤ 7293034; omega⟩ dL_law__459) (fun H locs X => ?_)
  refine lv_aload_n C.1 C.2.1 dL_law__462 rfl (lv_at hl 2 rfl) ?_
  obtain ⟨r463, σ463, e463, h⟩ := bnd2 h
  refine afI (r0 := r463) (σ' := σ463) X (runV C G X q_X12_fault k_1882 k_1883 k_1881 (rcX12 G X kd_399) (c_X12_fault l E e463) rfl hl.1 rfl (Nat.le_of_ble_eq_true rfl) ⟨Nat.le_of_ble_eq_true rfl, Nat.le_of_ble_eq_true rfl⟩ ⟨by show _ ≤ 601024; omega, by show _ ≤ 7293034; omega⟩ dL_law__463) (fun H locs X => ?_)
  refine lv_icmp_eq (tgt := 2792) C.1 C.2.1 dL_law__466 (by decide) (fun c466 => ?_) (fun c466 => ?_)
  · replace h := ipos c466 h
    cases h
    refine W.widen (k := cells + 4) (n := slots + 24) (by omega) (by omega) ?_
    exact kk H locs ls (lw_sub hl (by simp [LwL])) X
  · replace h := ineg c466 h
    refine lv_iconst (v := 0) C.1 C.2.1 dL_law__469 (by decide) ?_
    cases h
theorem lwc_5 (C : Cx p s m args meth c cL_law_ (some .boolean) 7 "PaneStreetLaw") (G : Gf E s) (hT : l.stackTraces = false) {x1 x2 x3 x4 x5 : Int32} (h : lw_5 x1 x2 x3 x4 x5 σ = some (true, σ')) (X : Hx E σ s H locs) (hl : lv_has ls 7 (LwL E b i)) (hX : va_X b L xs s s.heap) (hb : b < s.heap.size) (hbA : ¬ Fr E b) (q1 : LwX L xs (i + 1) x1) (q2 : LwX L xs (i + 2) x2) (q3 : LwX L xs (i + 3) x3) (q4 : LwX L xs (i + 4) x4) (q5 : LwX L xs (i + 5) x5) (hcc : cells ≤ 4000) (hss : slots ≤ 100000)
    (kk : ∀ (H1 : Heap) (locs1 : List Loc) (ls1 : Array Slot), lv_has ls1 7 (LwL E b i) → Hx E σ' s H1 locs1 → W p l e room_1 s m args below meth c H1 locs1 (cells + 4) (slots + 24) Q (F0 m 2792 ls1 [])) : W p l e room_1 s m args below meth c H locs cells slots Q (F0 m 471 ls []) := by
  unfold lw_5 at h
  unfold LwL at hl
  refine lv_aload_n C.1 C.2.1 dL_law__471 rfl (lv_at hl 1 rfl) ?_
  refine lv_aload_n C.1 C.2.1 dL_law__472 rfl (lv_at hl 0 rfl) ?_
  refine lv_iload C.1 C.2.1 dL_law__473 (lv_at hl 4 rfl) ?_
  refine lv_iconst (v := 1) C.1 C.2.1 dL_law__475 (by decide) ?_
  refine lv_iadd C.1 C.2.1 dL_law__476 ?_
  refine xld C X hX hb hbA q1 dL_law__477 ?_
  refine lv_aload_n C.1 C.2.1 dL_law__478 rfl (lv_at hl 0 rfl) ?_
  refine lv_iload C.1 C.2.1 dL_law__479 (lv_at hl 4 rfl) ?_
  refine lv_iconst (v := 2) C.1 C.2.1 dL_law__481 (by decide) ?_
  refine lv_iadd C.1 C.2.1 dL_law__482 ?_
  refine xld C X hX hb hbA q2 dL_law__483 ?_
  refine lv_aload_n C.1 C.2.1 dL_law__484 rfl (lv_at hl 3 rfl) ?_
  obtain ⟨r485, σ485, e485, h⟩ := bnd2 h
  refine afW (r0 := r485) (σ' := σ485) X (runSW_ (n := 4) C G X k_1155 k_103 (by decide +kernel) k_1154 k_1153 (c_L_pane l E hT e485) rfl hl.1 rfl (Nat.le_of_ble_eq_true rfl) ⟨Nat.le_of_ble_eq_true rfl, Nat.le_of_ble_eq_true rfl⟩ ⟨by show _ ≤ 601024; omega, by show _ ≤ 7293034; omega⟩ dL_law__485) (fun H locs X => ?_)
  refine lv_istore (lv' := [(5, .int r485), (0, .ref b), (1, .ref (gB E + 0)), (2, .ref (gB E + 399)), (3, .ref (gB E + 411)), (4, .int i)]) C.1 C.2.1 dL_law__488 hl (by decide) rfl (fun ls hl => ?_)
  refine lv_aload_n C.1 C.2.1 dL_law__490 rfl (lv_at hl 3 rfl) ?_
  refine lv_aload_n C.1 C.2.1 dL_law__491 rfl (lv_at hl 1 rfl) ?_
  refine lv_iload C.1 C.2.1 dL_law__492 (lv_at hl 5 rfl) ?_
  refine lv_iconst (v := 1) C.1 C.2.1 dL_law__494 (by decide) ?_
  refine lv_iadd C.1 C.2.1 dL_law__495 ?_
  refine xld C X hX hb hbA q1 dL_law__496 ?_
  refine lv_aload_n C.1 C.2.1 dL_law__497 rfl (lv_at hl 1 rfl) ?_
  refine lv_iload C.1 C.2.1 dL_law__498 (lv_at hl 5 rfl) ?_
  refine lv_iconst (v := 2) C.1 C.2.1 dL_law__500 (by decide) ?_
  refine lv_iadd C.1 C.2.1 dL_law__501 ?_
  refine xld C X hX hb hbA q2 dL_law__502 ?_
  obtain ⟨r503, σ503, e503, h⟩ := bnd2 h
  refine afI (r0 := r503) (σ' := σ503) X (runV C G X q_X12_pane k_1886 k_1887 k_1885 (rcX12 G X kd_399) (c_X12_pane l E e503) rfl hl.1 rfl (Nat.le_of_ble_eq_true rfl) ⟨Nat.le_of_ble_eq_true rfl, Nat.le_of_ble_eq_true rfl⟩ ⟨by show _ ≤ 601024; omega, by show _ ≤ 7293034; omega⟩ dL_law__503) (fun H locs X => ?_)
  refine lv_istore (lv' := [(6, .int r503), (5, .int r485), (0, .ref b), (1, .ref (gB E + 0)), (2, .ref (gB E + 399)), (3, .ref (gB E + 411)), (4, .int i)]) C.1 C.2.1 dL_law__506 hl (by decide) rfl (fun ls hl => ?_)
  refine lv_aload_n C.1 C.2.1 dL_law__508 rfl (lv_at hl 4 rfl) ?_
  obtain ⟨r509, e509, h⟩ := bnd h
  refine afI X (runV C G X q_X12_thrown k_1722 k_1723 k_1721 (rcX12 G X kd_399) (c_X12_thrown l E e509) rfl hl.1 rfl (Nat.le_of_ble_eq_true rfl) ⟨Nat.le_of_ble_eq_true rfl, Nat.le_of_ble_eq_true rfl⟩ ⟨by show _ ≤ 601024; omega, by show _ ≤ 7293034; omega⟩ dL_law__509) (fun H locs X => ?_)
  refine lv_iload C.1 C.2.1 dL_law__512 (lv_at hl 1 rfl) ?_
  refine lv_icmp_eq (tgt := 519) C.1 C.2.1 dL_law__514 (by decide) (fun c514 => ?_) (fun c514 => ?_)
  · replace h := ipos c514 h
    refine lv_iload C.1 C.2.1 dL_law__519 (lv_at hl 1 rfl) ?_
    refine lv_if_ne (tgt := 536) C.1 C.2.1 dL_law__521 (by decide) (fun c521 => ?_) (fun c521 => ?_)
    · replace h := ineg c521 h
      refine lv_goto (tgt := 2792) C.1 C.2.1 dL_law__536 (by decide) ?_
      cases h
      refine W.widen (k := cells + 4) (n := slots + 24) (by omega) (by omega) ?_
      exact kk H locs ls (lw_sub hl (by simp [LwL])) X
    · replace h := ipos c521 h
      refine lv_aload_n C.1 C.2.1 dL_law__524 rfl (lv_at hl 5 rfl) ?_
      refine lv_iconst (v := 0) C.1 C.2.1 dL_law__525 (by decide) ?_
      refine ald_o C G X (k := 411) kd411 in411 dL_law__526 ?_
      refine lv_iload C.1 C.2.1 dL_law__527 (lv_at hl 0 rfl) ?_
      refine lv_i2l C.1 C.2.1 dL_law__529 rfl ?_
      refine W.lcmp C.1 C.2.1 dL_law__530 ?_
      refine lv_if_eq (tgt := 536) C.1 C.2.1 dL_law__531 (by decide) (fun c531 => ?_) (fun c531 => ?_)
      · replace h := ipos c531 h
        refine lv_goto (tgt := 2792) C.1 C.2.1 dL_law__536 (by decide) ?_
        cases h
        refine W.widen (k := cells + 4) (n := slots + 24) (by omega) (by omega) ?_
        exact kk H locs ls (lw_sub hl (by simp [LwL])) X
      · replace h := ineg c531 h
        refine lv_iconst (v := 0) C.1 C.2.1 dL_law__534 (by decide) ?_
        cases h
  · replace h := ineg c514 h
    refine lv_iconst (v := 0) C.1 C.2.1 dL_law__517 (by decide) ?_
    cases h
theorem lwc_6 (C : Cx p s m args meth c cL_law_ (some .boolean) 7 "PaneStreetLaw") (G : Gf E s) (hT : l.stackTraces = false) {x1 x2 x3 x4 x5 : Int32} (h : lw_6 x1 x2 x3 x4 x5 σ = some (true, σ')) (X : Hx E σ s H locs) (hl : lv_has ls 7 (LwL E b i)) (hX : va_X b L xs s s.heap) (hb : b < s.heap.size) (hbA : ¬ Fr E b) (q1 : LwX L xs (i + 1) x1) (q2 : LwX L xs (i + 2) x2) (q3 : LwX L xs (i + 3) x3) (q4 : LwX L xs (i + 4) x4) (q5 : LwX L xs (i + 5) x5) (hcc : cells ≤ 4000) (hss : slots ≤ 100000)
    (kk : ∀ (H1 : Heap) (locs1 : List Loc) (ls1 : Array Slot), lv_has ls1 7 (LwL E b i) → Hx E σ' s H1 locs1 → W p l e room_1 s m args below meth c H1 locs1 (cells + 4) (slots + 24) Q (F0 m 2792 ls1 [])) : W p l e room_1 s m args below meth c H locs cells slots Q (F0 m 539 ls []) := by
  unfold lw_6 at h
  unfold LwL at hl
  refine lv_aload_n C.1 C.2.1 dL_law__539 rfl (lv_at hl 1 rfl) ?_
  refine lv_aload_n C.1 C.2.1 dL_law__540 rfl (lv_at hl 0 rfl) ?_
  refine lv_iload C.1 C.2.1 dL_law__541 (lv_at hl 4 rfl) ?_
  refine lv_iconst (v := 1) C.1 C.2.1 dL_law__543 (by decide) ?_
  refine lv_iadd C.1 C.2.1 dL_law__544 ?_
  refine xld C X hX hb hbA q1 dL_law__545 ?_
  refine lv_aload_n C.1 C.2.1 dL_law__546 rfl (lv_at hl 0 rfl) ?_
  refine lv_iload C.1 C.2.1 dL_law__547 (lv_at hl 4 rfl) ?_
  refine lv_iconst (v := 2) C.1 C.2.1 dL_law__549 (by decide) ?_
  refine lv_iadd C.1 C.2.1 dL_law__550 ?_
  refine xld C X hX hb hbA q2 dL_law__551 ?_
  refine lv_aload_n C.1 C.2.1 dL_law__552 rfl (lv_at hl 3 rfl) ?_
  obtain ⟨r553, σ553, e553, h⟩ := bnd2 h
  refine afW (r0 := r553) (σ' := σ553) X (runSW_ (n := 4) C G X k_1209 k_103 (by decide +kernel) k_1208 k_1207 (c_L_walker l E hT e553) rfl hl.1 rfl (Nat.le_of_ble_eq_true rfl) ⟨Nat.le_of_ble_eq_true rfl, Nat.le_of_ble_eq_true rfl⟩ ⟨by show _ ≤ 601024; omega, by show _ ≤ 7293034; omega⟩ dL_law__553) (fun H locs X => ?_)
  refine lv_istore (lv' := [(5, .int r553), (0, .ref b), (1, .ref (gB E + 0)), (2, .ref (gB E + 399)), (3, .ref (gB E + 411)), (4, .int i)]) C.1 C.2.1 dL_law__556 hl (by decide) rfl (fun ls hl => ?_)
  refine lv_aload_n C.1 C.2.1 dL_law__558 rfl (lv_at hl 3 rfl) ?_
  refine lv_aload_n C.1 C.2.1 dL_law__559 rfl (lv_at hl 1 rfl) ?_
  refine lv_iload C.1 C.2.1 dL_law__560 (lv_at hl 5 rfl) ?_
  refine lv_iconst (v := 1) C.1 C.2.1 dL_law__562 (by decide) ?_
  refine lv_iadd C.1 C.2.1 dL_law__563 ?_
  refine xld C X hX hb hbA q1 dL_law__564 ?_
  refine lv_aload_n C.1 C.2.1 dL_law__565 rfl (lv_at hl 1 rfl) ?_
  refine lv_iload C.1 C.2.1 dL_law__566 (lv_at hl 5 rfl) ?_
  refine lv_iconst (v := 2) C.1 C.2.1 dL_law__568 (by decide) ?_
  refine lv_iadd C.1 C.2.1 dL_law__569 ?_
  refine xld C X hX hb hbA q2 dL_law__570 ?_
  obtain ⟨r571, σ571, e571, h⟩ := bnd2 h
  refine afI (r0 := r571) (σ' := σ571) X (runV C G X q_X12_walker k_1972 k_1973 k_1971 (rcX12 G X kd_399) (c_X12_walker l E e571) rfl hl.1 rfl (Nat.le_of_ble_eq_true rfl) ⟨Nat.le_of_ble_eq_true rfl, Nat.le_of_ble_eq_true rfl⟩ ⟨by show _ ≤ 601024; omega, by show _ ≤ 7293034; omega⟩ dL_law__571) (fun H locs X => ?_)
  refine lv_istore (lv' := [(6, .int r571), (5, .int r553), (0, .ref b), (1, .ref (gB E + 0)), (2, .ref (gB E + 399)), (3, .ref (gB E + 411)), (4, .int i)]) C.1 C.2.1 dL_law__574 hl (by decide) rfl (fun ls hl => ?_)
  refine lv_aload_n C.1 C.2.1 dL_law__576 rfl (lv_at hl 4 rfl) ?_
  obtain ⟨r577, e577, h⟩ := bnd h
  refine afI X (runV C G X q_X12_thrown k_1722 k_1723 k_1721 (rcX12 G X kd_399) (c_X12_thrown l E e577) rfl hl.1 rfl (Nat.le_of_ble_eq_true rfl) ⟨Nat.le_of_ble_eq_true rfl, Nat.le_of_ble_eq_true rfl⟩ ⟨by show _ ≤ 601024; omega, by show _ ≤ 7293034; omega⟩ dL_law__577) (fun H locs X => ?_)
  refine lv_iload C.1 C.2.1 dL_law__580 (lv_at hl 1 rfl) ?_
  refine lv_icmp_eq (tgt := 587) C.1 C.2.1 dL_law__582 (by decide) (fun c582 => ?_) (fun c582 => ?_)
  · replace h := ipos c582 h
    refine lv_iload C.1 C.2.1 dL_law__587 (lv_at hl 1 rfl) ?_
    refine lv_if_ne (tgt := 604) C.1 C.2.1 dL_law__589 (by decide) (fun c589 => ?_) (fun c589 => ?_)
    · replace h := ineg c589 h
      refine lv_goto (tgt := 2792) C.1 C.2.1 dL_law__604 (by decide) ?_
      cases h
      refine W.widen (k := cells + 4) (n := slots + 24) (by omega) (by omega) ?_
      exact kk H locs ls (lw_sub hl (by simp [LwL])) X
    · replace h := ipos c589 h
      refine lv_aload_n C.1 C.2.1 dL_law__592 rfl (lv_at hl 5 rfl) ?_
      refine lv_iconst (v := 0) C.1 C.2.1 dL_law__593 (by decide) ?_
      refine ald_o C G X (k := 411) kd411 in411 dL_law__594 ?_
      refine lv_iload C.1 C.2.1 dL_law__595 (lv_at hl 0 rfl) ?_
      refine lv_i2l C.1 C.2.1 dL_law__597 rfl ?_
      refine W.lcmp C.1 C.2.1 dL_law__598 ?_
      refine lv_if_eq (tgt := 604) C.1 C.2.1 dL_law__599 (by decide) (fun c599 => ?_) (fun c599 => ?_)
      · replace h := ipos c599 h
        refine lv_goto (tgt := 2792) C.1 C.2.1 dL_law__604 (by decide) ?_
        cases h
        refine W.widen (k := cells + 4) (n := slots + 24) (by omega) (by omega) ?_
        exact kk H locs ls (lw_sub hl (by simp [LwL])) X
      · replace h := ineg c599 h
        refine lv_iconst (v := 0) C.1 C.2.1 dL_law__602 (by decide) ?_
        cases h
  · replace h := ineg c582 h
    refine lv_iconst (v := 0) C.1 C.2.1 dL_law__585 (by decide) ?_
    cases h
theorem lwc_7 (C : Cx p s m args meth c cL_law_ (some .boolean) 7 "PaneStreetLaw") (G : Gf E s) (hT : l.stackTraces = false) {x1 x2 x3 x4 x5 : Int32} (h : lw_7 x1 x2 x3 x4 x5 σ = some (true, σ')) (X : Hx E σ s H locs) (hl : lv_has ls 7 (LwL E b i)) (hX : va_X b L xs s s.heap) (hb : b < s.heap.size) (hbA : ¬ Fr E b) (q1 : LwX L xs (i + 1) x1) (q2 : LwX L xs (i + 2) x2) (q3 : LwX L xs (i + 3) x3) (q4 : LwX L xs (i + 4) x4) (q5 : LwX L xs (i + 5) x5) (hcc : cells ≤ 4000) (hss : slots ≤ 100000)
    (kk : ∀ (H1 : Heap) (locs1 : List Loc) (ls1 : Array Slot), lv_has ls1 7 (LwL E b i) → Hx E σ' s H1 locs1 → W p l e room_1 s m args below meth c H1 locs1 (cells + 4) (slots + 24) Q (F0 m 2792 ls1 [])) : W p l e room_1 s m args below meth c H locs cells slots Q (F0 m 607 ls []) := by
  unfold lw_7 at h
  unfold LwL at hl
  refine lv_aload_n C.1 C.2.1 dL_law__607 rfl (lv_at hl 1 rfl) ?_
  refine lv_aload_n C.1 C.2.1 dL_law__608 rfl (lv_at hl 0 rfl) ?_
  refine lv_iload C.1 C.2.1 dL_law__609 (lv_at hl 4 rfl) ?_
  refine lv_iconst (v := 1) C.1 C.2.1 dL_law__611 (by decide) ?_
  refine lv_iadd C.1 C.2.1 dL_law__612 ?_
  refine xld C X hX hb hbA q1 dL_law__613 ?_
  refine lv_aload_n C.1 C.2.1 dL_law__614 rfl (lv_at hl 0 rfl) ?_
  refine lv_iload C.1 C.2.1 dL_law__615 (lv_at hl 4 rfl) ?_
  refine lv_iconst (v := 2) C.1 C.2.1 dL_law__617 (by decide) ?_
  refine lv_iadd C.1 C.2.1 dL_law__618 ?_
  refine xld C X hX hb hbA q2 dL_law__619 ?_
  refine lv_aload_n C.1 C.2.1 dL_law__620 rfl (lv_at hl 3 rfl) ?_
  obtain ⟨r621, σ621, e621, h⟩ := bnd2 h
  refine afW (r0 := r621) (σ' := σ621) X (runSW_ (n := 4) C G X k_1250 k_103 (by decide +kernel) k_1249 k_1248 (c_L_likes l E hT e621) rfl hl.1 rfl (Nat.le_of_ble_eq_true rfl) ⟨Nat.le_of_ble_eq_true rfl, Nat.le_of_ble_eq_true rfl⟩ ⟨by show _ ≤ 601024; omega, by show _ ≤ 7293034; omega⟩ dL_law__621) (fun H locs X => ?_)
  refine lv_istore (lv' := [(5, .int r621), (0, .ref b), (1, .ref (gB E + 0)), (2, .ref (gB E + 399)), (3, .ref (gB E + 411)), (4, .int i)]) C.1 C.2.1 dL_law__624 hl (by decide) rfl (fun ls hl => ?_)
  refine lv_aload_n C.1 C.2.1 dL_law__626 rfl (lv_at hl 3 rfl) ?_
  refine lv_aload_n C.1 C.2.1 dL_law__627 rfl (lv_at hl 1 rfl) ?_
  refine lv_iload C.1 C.2.1 dL_law__628 (lv_at hl 5 rfl) ?_
  refine lv_iconst (v := 1) C.1 C.2.1 dL_law__630 (by decide) ?_
  refine lv_iadd C.1 C.2.1 dL_law__631 ?_
  refine xld C X hX hb hbA q1 dL_law__632 ?_
  refine lv_aload_n C.1 C.2.1 dL_law__633 rfl (lv_at hl 1 rfl) ?_
  refine lv_iload C.1 C.2.1 dL_law__634 (lv_at hl 5 rfl) ?_
  refine lv_iconst (v := 2) C.1 C.2.1 dL_law__636 (by decide) ?_
  refine lv_iadd C.1 C.2.1 dL_law__637 ?_
  refine xld C X hX hb hbA q2 dL_law__638 ?_
  obtain ⟨r639, σ639, e639, h⟩ := bnd2 h
  refine afI (r0 := r639) (σ' := σ639) X (runV C G X q_X12_likes k_1997 k_1998 k_1996 (rcX12 G X kd_399) (c_X12_likes l E e639) rfl hl.1 rfl (Nat.le_of_ble_eq_true rfl) ⟨Nat.le_of_ble_eq_true rfl, Nat.le_of_ble_eq_true rfl⟩ ⟨by show _ ≤ 601024; omega, by show _ ≤ 7293034; omega⟩ dL_law__639) (fun H locs X => ?_)
  refine lv_istore (lv' := [(6, .int r639), (5, .int r621), (0, .ref b), (1, .ref (gB E + 0)), (2, .ref (gB E + 399)), (3, .ref (gB E + 411)), (4, .int i)]) C.1 C.2.1 dL_law__642 hl (by decide) rfl (fun ls hl => ?_)
  refine lv_aload_n C.1 C.2.1 dL_law__644 rfl (lv_at hl 4 rfl) ?_
  obtain ⟨r645, e645, h⟩ := bnd h
  refine afI X (runV C G X q_X12_thrown k_1722 k_1723 k_1721 (rcX12 G X kd_399) (c_X12_thrown l E e645) rfl hl.1 rfl (Nat.le_of_ble_eq_true rfl) ⟨Nat.le_of_ble_eq_true rfl, Nat.le_of_ble_eq_true rfl⟩ ⟨by show _ ≤ 601024; omega, by show _ ≤ 7293034; omega⟩ dL_law__645) (fun H locs X => ?_)
  refine lv_iload C.1 C.2.1 dL_law__648 (lv_at hl 1 rfl) ?_
  refine lv_icmp_eq (tgt := 655) C.1 C.2.1 dL_law__650 (by decide) (fun c650 => ?_) (fun c650 => ?_)
  · replace h := ipos c650 h
    refine lv_iload C.1 C.2.1 dL_law__655 (lv_at hl 1 rfl) ?_
    refine lv_if_ne (tgt := 672) C.1 C.2.1 dL_law__657 (by decide) (fun c657 => ?_) (fun c657 => ?_)
    · replace h := ineg c657 h
      refine lv_goto (tgt := 2792) C.1 C.2.1 dL_law__672 (by decide) ?_
      cases h
      refine W.widen (k := cells + 4) (n := slots + 24) (by omega) (by omega) ?_
      exact kk H locs ls (lw_sub hl (by simp [LwL])) X
    · replace h := ipos c657 h
      refine lv_aload_n C.1 C.2.1 dL_law__660 rfl (lv_at hl 5 rfl) ?_
      refine lv_iconst (v := 0) C.1 C.2.1 dL_law__661 (by decide) ?_
      refine ald_o C G X (k := 411) kd411 in411 dL_law__662 ?_
      refine lv_iload C.1 C.2.1 dL_law__663 (lv_at hl 0 rfl) ?_
      refine lv_i2l C.1 C.2.1 dL_law__665 rfl ?_
      refine W.lcmp C.1 C.2.1 dL_law__666 ?_
      refine lv_if_eq (tgt := 672) C.1 C.2.1 dL_law__667 (by decide) (fun c667 => ?_) (fun c667 => ?_)
      · replace h := ipos c667 h
        refine lv_goto (tgt := 2792) C.1 C.2.1 dL_law__672 (by decide) ?_
        cases h
        refine W.widen (k := cells + 4) (n := slots + 24) (by omega) (by omega) ?_
        exact kk H locs ls (lw_sub hl (by simp [LwL])) X
      · replace h := ineg c667 h
        refine lv_iconst (v := 0) C.1 C.2.1 dL_law__670 (by decide) ?_
        cases h
  · replace h := ineg c650 h
    refine lv_iconst (v := 0) C.1 C.2.1 dL_law__653 (by decide) ?_
    cases h
theorem lwc_8 (C : Cx p s m args meth c cL_law_ (some .boolean) 7 "PaneStreetLaw") (G : Gf E s) (hT : l.stackTraces = false) {x1 x2 x3 x4 x5 : Int32} (h : lw_8 x1 x2 x3 x4 x5 σ = some (true, σ')) (X : Hx E σ s H locs) (hl : lv_has ls 7 (LwL E b i)) (hX : va_X b L xs s s.heap) (hb : b < s.heap.size) (hbA : ¬ Fr E b) (q1 : LwX L xs (i + 1) x1) (q2 : LwX L xs (i + 2) x2) (q3 : LwX L xs (i + 3) x3) (q4 : LwX L xs (i + 4) x4) (q5 : LwX L xs (i + 5) x5) (hcc : cells ≤ 4000) (hss : slots ≤ 100000)
    (kk : ∀ (H1 : Heap) (locs1 : List Loc) (ls1 : Array Slot), lv_has ls1 7 (LwL E b i) → Hx E σ' s H1 locs1 → W p l e room_1 s m args below meth c H1 locs1 (cells + 4) (slots + 24) Q (F0 m 2792 ls1 [])) : W p l e room_1 s m args below meth c H locs cells slots Q (F0 m 675 ls []) := by
  unfold lw_8 at h
  unfold LwL at hl
  refine lv_aload_n C.1 C.2.1 dL_law__675 rfl (lv_at hl 1 rfl) ?_
  refine lv_aload_n C.1 C.2.1 dL_law__676 rfl (lv_at hl 0 rfl) ?_
  refine lv_iload C.1 C.2.1 dL_law__677 (lv_at hl 4 rfl) ?_
  refine lv_iconst (v := 1) C.1 C.2.1 dL_law__679 (by decide) ?_
  refine lv_iadd C.1 C.2.1 dL_law__680 ?_
  refine xld C X hX hb hbA q1 dL_law__681 ?_
  refine lv_aload_n C.1 C.2.1 dL_law__682 rfl (lv_at hl 0 rfl) ?_
  refine lv_iload C.1 C.2.1 dL_law__683 (lv_at hl 4 rfl) ?_
  refine lv_iconst (v := 2) C.1 C.2.1 dL_law__685 (by decide) ?_
  refine lv_iadd C.1 C.2.1 dL_law__686 ?_
  refine xld C X hX hb hbA q2 dL_law__687 ?_
  refine lv_aload_n C.1 C.2.1 dL_law__688 rfl (lv_at hl 3 rfl) ?_
  obtain ⟨r689, σ689, e689, h⟩ := bnd2 h
  refine afW (r0 := r689) (σ' := σ689) X (runSW_ (n := 4) C G X k_1263 k_103 (by decide +kernel) k_1262 k_1261 (c_L_will l E hT e689) rfl hl.1 rfl (Nat.le_of_ble_eq_true rfl) ⟨Nat.le_of_ble_eq_true rfl, Nat.le_of_ble_eq_true rfl⟩ ⟨by show _ ≤ 601024; omega, by show _ ≤ 7293034; omega⟩ dL_law__689) (fun H locs X => ?_)
  refine lv_istore (lv' := [(5, .int r689), (0, .ref b), (1, .ref (gB E + 0)), (2, .ref (gB E + 399)), (3, .ref (gB E + 411)), (4, .int i)]) C.1 C.2.1 dL_law__692 hl (by decide) rfl (fun ls hl => ?_)
  refine lv_aload_n C.1 C.2.1 dL_law__694 rfl (lv_at hl 3 rfl) ?_
  refine lv_aload_n C.1 C.2.1 dL_law__695 rfl (lv_at hl 1 rfl) ?_
  refine lv_iload C.1 C.2.1 dL_law__696 (lv_at hl 5 rfl) ?_
  refine lv_iconst (v := 1) C.1 C.2.1 dL_law__698 (by decide) ?_
  refine lv_iadd C.1 C.2.1 dL_law__699 ?_
  refine xld C X hX hb hbA q1 dL_law__700 ?_
  refine lv_aload_n C.1 C.2.1 dL_law__701 rfl (lv_at hl 1 rfl) ?_
  refine lv_iload C.1 C.2.1 dL_law__702 (lv_at hl 5 rfl) ?_
  refine lv_iconst (v := 2) C.1 C.2.1 dL_law__704 (by decide) ?_
  refine lv_iadd C.1 C.2.1 dL_law__705 ?_
  refine xld C X hX hb hbA q2 dL_law__706 ?_
  obtain ⟨r707, σ707, e707, h⟩ := bnd2 h
  refine afI (r0 := r707) (σ' := σ707) X (runV C G X q_X12_will k_2005 k_2006 k_2004 (rcX12 G X kd_399) (c_X12_will l E e707) rfl hl.1 rfl (Nat.le_of_ble_eq_true rfl) ⟨Nat.le_of_ble_eq_true rfl, Nat.le_of_ble_eq_true rfl⟩ ⟨by show _ ≤ 601024; omega, by show _ ≤ 7293034; omega⟩ dL_law__707) (fun H locs X => ?_)
  refine lv_istore (lv' := [(6, .int r707), (5, .int r689), (0, .ref b), (1, .ref (gB E + 0)), (2, .ref (gB E + 399)), (3, .ref (gB E + 411)), (4, .int i)]) C.1 C.2.1 dL_law__710 hl (by decide) rfl (fun ls hl => ?_)
  refine lv_aload_n C.1 C.2.1 dL_law__712 rfl (lv_at hl 4 rfl) ?_
  obtain ⟨r713, e713, h⟩ := bnd h
  refine afI X (runV C G X q_X12_thrown k_1722 k_1723 k_1721 (rcX12 G X kd_399) (c_X12_thrown l E e713) rfl hl.1 rfl (Nat.le_of_ble_eq_true rfl) ⟨Nat.le_of_ble_eq_true rfl, Nat.le_of_ble_eq_true rfl⟩ ⟨by show _ ≤ 601024; omega, by show _ ≤ 7293034; omega⟩ dL_law__713) (fun H locs X => ?_)
  refine lv_iload C.1 C.2.1 dL_law__716 (lv_at hl 1 rfl) ?_
  refine lv_icmp_eq (tgt := 723) C.1 C.2.1 dL_law__718 (by decide) (fun c718 => ?_) (fun c718 => ?_)
  · replace h := ipos c718 h
    refine lv_iload C.1 C.2.1 dL_law__723 (lv_at hl 1 rfl) ?_
    refine lv_if_ne (tgt := 740) C.1 C.2.1 dL_law__725 (by decide) (fun c725 => ?_) (fun c725 => ?_)
    · replace h := ineg c725 h
      refine lv_goto (tgt := 2792) C.1 C.2.1 dL_law__740 (by decide) ?_
      cases h
      refine W.widen (k := cells + 4) (n := slots + 24) (by omega) (by omega) ?_
      exact kk H locs ls (lw_sub hl (by simp [LwL])) X
    · replace h := ipos c725 h
      refine lv_aload_n C.1 C.2.1 dL_law__728 rfl (lv_at hl 5 rfl) ?_
      refine lv_iconst (v := 0) C.1 C.2.1 dL_law__729 (by decide) ?_
      refine ald_o C G X (k := 411) kd411 in411 dL_law__730 ?_
      refine lv_iload C.1 C.2.1 dL_law__731 (lv_at hl 0 rfl) ?_
      refine lv_i2l C.1 C.2.1 dL_law__733 rfl ?_
      refine W.lcmp C.1 C.2.1 dL_law__734 ?_
      refine lv_if_eq (tgt := 740) C.1 C.2.1 dL_law__735 (by decide) (fun c735 => ?_) (fun c735 => ?_)
      · replace h := ipos c735 h
        refine lv_goto (tgt := 2792) C.1 C.2.1 dL_law__740 (by decide) ?_
        cases h
        refine W.widen (k := cells + 4) (n := slots + 24) (by omega) (by omega) ?_
        exact kk H locs ls (lw_sub hl (by simp [LwL])) X
      · replace h := ineg c735 h
        refine lv_iconst (v := 0) C.1 C.2.1 dL_law__738 (by decide) ?_
        cases h
  · replace h := ineg c718 h
    refine lv_iconst (v := 0) C.1 C.2.1 dL_law__721 (by decide) ?_
    cases h
theorem lwc_9 (C : Cx p s m args meth c cL_law_ (some .boolean) 7 "PaneStreetLaw") (G : Gf E s) (hT : l.stackTraces = false) {x1 x2 x3 x4 x5 : Int32} (h : lw_9 x1 x2 x3 x4 x5 σ = some (true, σ')) (X : Hx E σ s H locs) (hl : lv_has ls 7 (LwL E b i)) (hX : va_X b L xs s s.heap) (hb : b < s.heap.size) (hbA : ¬ Fr E b) (q1 : LwX L xs (i + 1) x1) (q2 : LwX L xs (i + 2) x2) (q3 : LwX L xs (i + 3) x3) (q4 : LwX L xs (i + 4) x4) (q5 : LwX L xs (i + 5) x5) (hcc : cells ≤ 4000) (hss : slots ≤ 100000)
    (kk : ∀ (H1 : Heap) (locs1 : List Loc) (ls1 : Array Slot), lv_has ls1 7 (LwL E b i) → Hx E σ' s H1 locs1 → W p l e room_1 s m args below meth c H1 locs1 (cells + 4) (slots + 24) Q (F0 m 2792 ls1 [])) : W p l e room_1 s m args below meth c H locs cells slots Q (F0 m 743 ls []) := by
  unfold lw_9 at h
  unfold LwL at hl
  refine lv_aload_n C.1 C.2.1 dL_law__743 rfl (lv_at hl 1 rfl) ?_
  refine lv_aload_n C.1 C.2.1 dL_law__744 rfl (lv_at hl 0 rfl) ?_
  refine lv_iload C.1 C.2.1 dL_law__745 (lv_at hl 4 rfl) ?_
  refine lv_iconst (v := 1) C.1 C.2.1 dL_law__747 (by decide) ?_
  refine lv_iadd C.1 C.2.1 dL_law__748 ?_
  refine xld C X hX hb hbA q1 dL_law__749 ?_
  refine lv_aload_n C.1 C.2.1 dL_law__750 rfl (lv_at hl 0 rfl) ?_
  refine lv_iload C.1 C.2.1 dL_law__751 (lv_at hl 4 rfl) ?_
  refine lv_iconst (v := 2) C.1 C.2.1 dL_law__753 (by decide) ?_
  refine lv_iadd C.1 C.2.1 dL_law__754 ?_
  refine xld C X hX hb hbA q2 dL_law__755 ?_
  refine lv_aload_n C.1 C.2.1 dL_law__756 rfl (lv_at hl 3 rfl) ?_
  obtain ⟨r757, σ757, e757, h⟩ := bnd2 h
  refine afW (r0 := r757) (σ' := σ757) X (runSW_ (n := 4) C G X k_1273 k_103 (by decide +kernel) k_1272 k_1271 (c_L_lights l E hT e757) rfl hl.1 rfl (Nat.le_of_ble_eq_true rfl) ⟨Nat.le_of_ble_eq_true rfl, Nat.le_of_ble_eq_true rfl⟩ ⟨by show _ ≤ 601024; omega, by show _ ≤ 7293034; omega⟩ dL_law__757) (fun H locs X => ?_)
  refine lv_istore (lv' := [(5, .int r757), (0, .ref b), (1, .ref (gB E + 0)), (2, .ref (gB E + 399)), (3, .ref (gB E + 411)), (4, .int i)]) C.1 C.2.1 dL_law__760 hl (by decide) rfl (fun ls hl => ?_)
  refine lv_aload_n C.1 C.2.1 dL_law__762 rfl (lv_at hl 3 rfl) ?_
  refine lv_aload_n C.1 C.2.1 dL_law__763 rfl (lv_at hl 1 rfl) ?_
  refine lv_iload C.1 C.2.1 dL_law__764 (lv_at hl 5 rfl) ?_
  refine lv_iconst (v := 1) C.1 C.2.1 dL_law__766 (by decide) ?_
  refine lv_iadd C.1 C.2.1 dL_law__767 ?_
  refine xld C X hX hb hbA q1 dL_law__768 ?_
  refine lv_aload_n C.1 C.2.1 dL_law__769 rfl (lv_at hl 1 rfl) ?_
  refine lv_iload C.1 C.2.1 dL_law__770 (lv_at hl 5 rfl) ?_
  refine lv_iconst (v := 2) C.1 C.2.1 dL_law__772 (by decide) ?_
  refine lv_iadd C.1 C.2.1 dL_law__773 ?_
  refine xld C X hX hb hbA q2 dL_law__774 ?_
  obtain ⟨r775, σ775, e775, h⟩ := bnd2 h
  refine afI (r0 := r775) (σ' := σ775) X (runV C G X q_X12_lights k_2009 k_2010 k_2008 (rcX12 G X kd_399) (c_X12_lights l E e775) rfl hl.1 rfl (Nat.le_of_ble_eq_true rfl) ⟨Nat.le_of_ble_eq_true rfl, Nat.le_of_ble_eq_true rfl⟩ ⟨by show _ ≤ 601024; omega, by show _ ≤ 7293034; omega⟩ dL_law__775) (fun H locs X => ?_)
  refine lv_istore (lv' := [(6, .int r775), (5, .int r757), (0, .ref b), (1, .ref (gB E + 0)), (2, .ref (gB E + 399)), (3, .ref (gB E + 411)), (4, .int i)]) C.1 C.2.1 dL_law__778 hl (by decide) rfl (fun ls hl => ?_)
  refine lv_aload_n C.1 C.2.1 dL_law__780 rfl (lv_at hl 4 rfl) ?_
  obtain ⟨r781, e781, h⟩ := bnd h
  refine afI X (runV C G X q_X12_thrown k_1722 k_1723 k_1721 (rcX12 G X kd_399) (c_X12_thrown l E e781) rfl hl.1 rfl (Nat.le_of_ble_eq_true rfl) ⟨Nat.le_of_ble_eq_true rfl, Nat.le_of_ble_eq_true rfl⟩ ⟨by show _ ≤ 601024; omega, by show _ ≤ 7293034; omega⟩ dL_law__781) (fun H locs X => ?_)
  refine lv_iload C.1 C.2.1 dL_law__784 (lv_at hl 1 rfl) ?_
  refine lv_icmp_eq (tgt := 791) C.1 C.2.1 dL_law__786 (by decide) (fun c786 => ?_) (fun c786 => ?_)
  · replace h := ipos c786 h
    refine lv_iload C.1 C.2.1 dL_law__791 (lv_at hl 1 rfl) ?_
    refine lv_if_ne (tgt := 815) C.1 C.2.1 dL_law__793 (by decide) (fun c793 => ?_) (fun c793 => ?_)
    · replace h := ineg c793 h
      refine lv_goto (tgt := 2792) C.1 C.2.1 dL_law__815 (by decide) ?_
      cases h
      refine W.widen (k := cells + 4) (n := slots + 24) (by omega) (by omega) ?_
      exact kk H locs ls (lw_sub hl (by simp [LwL])) X
    · replace h := ipos c793 h
      refine lv_aload_n C.1 C.2.1 dL_law__796 rfl (lv_at hl 5 rfl) ?_
      refine lv_iconst (v := 0) C.1 C.2.1 dL_law__797 (by decide) ?_
      refine ald_o C G X (k := 411) kd411 in411 dL_law__798 ?_
      refine lv_iload C.1 C.2.1 dL_law__799 (lv_at hl 0 rfl) ?_
      refine lv_if_eq (tgt := 808) C.1 C.2.1 dL_law__801 (by decide) (fun c801 => ?_) (fun c801 => ?_)
      · replace h := ipos c801 h
        refine lv_lconst (v := 0) C.1 C.2.1 dL_law__808 (by decide) ?_
        refine W.lcmp C.1 C.2.1 dL_law__809 ?_
        refine lv_if_eq (tgt := 815) C.1 C.2.1 dL_law__810 (by decide) (fun c810 => ?_) (fun c810 => ?_)
        · replace h := ipos c810 h
          refine lv_goto (tgt := 2792) C.1 C.2.1 dL_law__815 (by decide) ?_
          cases h
          refine W.widen (k := cells + 4) (n := slots + 24) (by omega) (by omega) ?_
          exact kk H locs ls (lw_sub hl (by simp [LwL])) X
        · replace h := ineg c810 h
          refine lv_iconst (v := 0) C.1 C.2.1 dL_law__813 (by decide) ?_
          cases h
      · replace h := ineg c801 h
        refine lv_lconst (v := 1) C.1 C.2.1 dL_law__804 (by decide) ?_
        refine lv_goto (tgt := 809) C.1 C.2.1 dL_law__805 (by decide) ?_
        refine W.lcmp C.1 C.2.1 dL_law__809 ?_
        refine lv_if_eq (tgt := 815) C.1 C.2.1 dL_law__810 (by decide) (fun c810 => ?_) (fun c810 => ?_)
        · replace h := ipos c810 h
          refine lv_goto (tgt := 2792) C.1 C.2.1 dL_law__815 (by decide) ?_
          cases h
          refine W.widen (k := cells + 4) (n := slots + 24) (by omega) (by omega) ?_
          exact kk H locs ls (lw_sub hl (by simp [LwL])) X
        · replace h := ineg c810 h
          refine lv_iconst (v := 0) C.1 C.2.1 dL_law__813 (by decide) ?_
          cases h
  · replace h := ineg c786 h
    refine lv_iconst (v := 0) C.1 C.2.1 dL_law__789 (by decide) ?_
    cases h
theorem lwc_10 (C : Cx p s m args meth c cL_law_ (some .boolean) 7 "PaneStreetLaw") (G : Gf E s) (hT : l.stackTraces = false) {x1 x2 x3 x4 x5 : Int32} (h : lw_10 x1 x2 x3 x4 x5 σ = some (true, σ')) (X : Hx E σ s H locs) (hl : lv_has ls 7 (LwL E b i)) (hX : va_X b L xs s s.heap) (hb : b < s.heap.size) (hbA : ¬ Fr E b) (q1 : LwX L xs (i + 1) x1) (q2 : LwX L xs (i + 2) x2) (q3 : LwX L xs (i + 3) x3) (q4 : LwX L xs (i + 4) x4) (q5 : LwX L xs (i + 5) x5) (hcc : cells ≤ 4000) (hss : slots ≤ 100000)
    (kk : ∀ (H1 : Heap) (locs1 : List Loc) (ls1 : Array Slot), lv_has ls1 7 (LwL E b i) → Hx E σ' s H1 locs1 → W p l e room_1 s m args below meth c H1 locs1 (cells + 4) (slots + 24) Q (F0 m 2792 ls1 [])) : W p l e room_1 s m args below meth c H locs cells slots Q (F0 m 818 ls []) := by
  unfold lw_10 at h
  unfold LwL at hl
  refine lv_aload_n C.1 C.2.1 dL_law__818 rfl (lv_at hl 1 rfl) ?_
  refine lv_aload_n C.1 C.2.1 dL_law__819 rfl (lv_at hl 0 rfl) ?_
  refine lv_iload C.1 C.2.1 dL_law__820 (lv_at hl 4 rfl) ?_
  refine lv_iconst (v := 1) C.1 C.2.1 dL_law__822 (by decide) ?_
  refine lv_iadd C.1 C.2.1 dL_law__823 ?_
  refine xld C X hX hb hbA q1 dL_law__824 ?_
  refine lv_aload_n C.1 C.2.1 dL_law__825 rfl (lv_at hl 0 rfl) ?_
  refine lv_iload C.1 C.2.1 dL_law__826 (lv_at hl 4 rfl) ?_
  refine lv_iconst (v := 2) C.1 C.2.1 dL_law__828 (by decide) ?_
  refine lv_iadd C.1 C.2.1 dL_law__829 ?_
  refine xld C X hX hb hbA q2 dL_law__830 ?_
  refine lv_aload_n C.1 C.2.1 dL_law__831 rfl (lv_at hl 3 rfl) ?_
  obtain ⟨r832, σ832, e832, h⟩ := bnd2 h
  refine afW (r0 := r832) (σ' := σ832) X (runSW_ (n := 4) C G X k_1281 k_103 (by decide +kernel) k_1280 k_1279 (c_L_isOpen l E hT e832) rfl hl.1 rfl (Nat.le_of_ble_eq_true rfl) ⟨Nat.le_of_ble_eq_true rfl, Nat.le_of_ble_eq_true rfl⟩ ⟨by show _ ≤ 601024; omega, by show _ ≤ 7293034; omega⟩ dL_law__832) (fun H locs X => ?_)
  refine lv_istore (lv' := [(5, .int r832), (0, .ref b), (1, .ref (gB E + 0)), (2, .ref (gB E + 399)), (3, .ref (gB E + 411)), (4, .int i)]) C.1 C.2.1 dL_law__835 hl (by decide) rfl (fun ls hl => ?_)
  refine lv_aload_n C.1 C.2.1 dL_law__837 rfl (lv_at hl 3 rfl) ?_
  refine lv_aload_n C.1 C.2.1 dL_law__838 rfl (lv_at hl 1 rfl) ?_
  refine lv_iload C.1 C.2.1 dL_law__839 (lv_at hl 5 rfl) ?_
  refine lv_iconst (v := 1) C.1 C.2.1 dL_law__841 (by decide) ?_
  refine lv_iadd C.1 C.2.1 dL_law__842 ?_
  refine xld C X hX hb hbA q1 dL_law__843 ?_
  refine lv_aload_n C.1 C.2.1 dL_law__844 rfl (lv_at hl 1 rfl) ?_
  refine lv_iload C.1 C.2.1 dL_law__845 (lv_at hl 5 rfl) ?_
  refine lv_iconst (v := 2) C.1 C.2.1 dL_law__847 (by decide) ?_
  refine lv_iadd C.1 C.2.1 dL_law__848 ?_
  refine xld C X hX hb hbA q2 dL_law__849 ?_
  obtain ⟨r850, σ850, e850, h⟩ := bnd2 h
  refine afI (r0 := r850) (σ' := σ850) X (runV C G X q_X12_isOpen k_2013 k_2014 k_2012 (rcX12 G X kd_399) (c_X12_isOpen l E e850) rfl hl.1 rfl (Nat.le_of_ble_eq_true rfl) ⟨Nat.le_of_ble_eq_true rfl, Nat.le_of_ble_eq_true rfl⟩ ⟨by show _ ≤ 601024; omega, by show _ ≤ 7293034; omega⟩ dL_law__850) (fun H locs X => ?_)
  refine lv_istore (lv' := [(6, .int r850), (5, .int r832), (0, .ref b), (1, .ref (gB E + 0)), (2, .ref (gB E + 399)), (3, .ref (gB E + 411)), (4, .int i)]) C.1 C.2.1 dL_law__853 hl (by decide) rfl (fun ls hl => ?_)
  refine lv_aload_n C.1 C.2.1 dL_law__855 rfl (lv_at hl 4 rfl) ?_
  obtain ⟨r856, e856, h⟩ := bnd h
  refine afI X (runV C G X q_X12_thrown k_1722 k_1723 k_1721 (rcX12 G X kd_399) (c_X12_thrown l E e856) rfl hl.1 rfl (Nat.le_of_ble_eq_true rfl) ⟨Nat.le_of_ble_eq_true rfl, Nat.le_of_ble_eq_true rfl⟩ ⟨by show _ ≤ 601024; omega, by show _ ≤ 7293034; omega⟩ dL_law__856) (fun H locs X => ?_)
  refine lv_iload C.1 C.2.1 dL_law__859 (lv_at hl 1 rfl) ?_
  refine lv_icmp_eq (tgt := 866) C.1 C.2.1 dL_law__861 (by decide) (fun c861 => ?_) (fun c861 => ?_)
  · replace h := ipos c861 h
    refine lv_iload C.1 C.2.1 dL_law__866 (lv_at hl 1 rfl) ?_
    refine lv_if_ne (tgt := 890) C.1 C.2.1 dL_law__868 (by decide) (fun c868 => ?_) (fun c868 => ?_)
    · replace h := ineg c868 h
      refine lv_goto (tgt := 2792) C.1 C.2.1 dL_law__890 (by decide) ?_
      cases h
      refine W.widen (k := cells + 4) (n := slots + 24) (by omega) (by omega) ?_
      exact kk H locs ls (lw_sub hl (by simp [LwL])) X
    · replace h := ipos c868 h
      refine lv_aload_n C.1 C.2.1 dL_law__871 rfl (lv_at hl 5 rfl) ?_
      refine lv_iconst (v := 0) C.1 C.2.1 dL_law__872 (by decide) ?_
      refine ald_o C G X (k := 411) kd411 in411 dL_law__873 ?_
      refine lv_iload C.1 C.2.1 dL_law__874 (lv_at hl 0 rfl) ?_
      refine lv_if_eq (tgt := 883) C.1 C.2.1 dL_law__876 (by decide) (fun c876 => ?_) (fun c876 => ?_)
      · replace h := ipos c876 h
        refine lv_lconst (v := 0) C.1 C.2.1 dL_law__883 (by decide) ?_
        refine W.lcmp C.1 C.2.1 dL_law__884 ?_
        refine lv_if_eq (tgt := 890) C.1 C.2.1 dL_law__885 (by decide) (fun c885 => ?_) (fun c885 => ?_)
        · replace h := ipos c885 h
          refine lv_goto (tgt := 2792) C.1 C.2.1 dL_law__890 (by decide) ?_
          cases h
          refine W.widen (k := cells + 4) (n := slots + 24) (by omega) (by omega) ?_
          exact kk H locs ls (lw_sub hl (by simp [LwL])) X
        · replace h := ineg c885 h
          refine lv_iconst (v := 0) C.1 C.2.1 dL_law__888 (by decide) ?_
          cases h
      · replace h := ineg c876 h
        refine lv_lconst (v := 1) C.1 C.2.1 dL_law__879 (by decide) ?_
        refine lv_goto (tgt := 884) C.1 C.2.1 dL_law__880 (by decide) ?_
        refine W.lcmp C.1 C.2.1 dL_law__884 ?_
        refine lv_if_eq (tgt := 890) C.1 C.2.1 dL_law__885 (by decide) (fun c885 => ?_) (fun c885 => ?_)
        · replace h := ipos c885 h
          refine lv_goto (tgt := 2792) C.1 C.2.1 dL_law__890 (by decide) ?_
          cases h
          refine W.widen (k := cells + 4) (n := slots + 24) (by omega) (by omega) ?_
          exact kk H locs ls (lw_sub hl (by simp [LwL])) X
        · replace h := ineg c885 h
          refine lv_iconst (v := 0) C.1 C.2.1 dL_law__888 (by decide) ?_
          cases h
  · replace h := ineg c861 h
    refine lv_iconst (v := 0) C.1 C.2.1 dL_law__864 (by decide) ?_
    cases h
theorem lwc_11 (C : Cx p s m args meth c cL_law_ (some .boolean) 7 "PaneStreetLaw") (G : Gf E s) (hT : l.stackTraces = false) {x1 x2 x3 x4 x5 : Int32} (h : lw_11 x1 x2 x3 x4 x5 σ = some (true, σ')) (X : Hx E σ s H locs) (hl : lv_has ls 7 (LwL E b i)) (hX : va_X b L xs s s.heap) (hb : b < s.heap.size) (hbA : ¬ Fr E b) (q1 : LwX L xs (i + 1) x1) (q2 : LwX L xs (i + 2) x2) (q3 : LwX L xs (i + 3) x3) (q4 : LwX L xs (i + 4) x4) (q5 : LwX L xs (i + 5) x5) (hcc : cells ≤ 4000) (hss : slots ≤ 100000)
    (kk : ∀ (H1 : Heap) (locs1 : List Loc) (ls1 : Array Slot), lv_has ls1 7 (LwL E b i) → Hx E σ' s H1 locs1 → W p l e room_1 s m args below meth c H1 locs1 (cells + 4) (slots + 24) Q (F0 m 2792 ls1 [])) : W p l e room_1 s m args below meth c H locs cells slots Q (F0 m 893 ls []) := by
  unfold lw_11 at h
  unfold LwL at hl
  refine lv_aload_n C.1 C.2.1 dL_law__893 rfl (lv_at hl 1 rfl) ?_
  refine lv_aload_n C.1 C.2.1 dL_law__894 rfl (lv_at hl 0 rfl) ?_
  refine lv_iload C.1 C.2.1 dL_law__895 (lv_at hl 4 rfl) ?_
  refine lv_iconst (v := 1) C.1 C.2.1 dL_law__897 (by decide) ?_
  refine lv_iadd C.1 C.2.1 dL_law__898 ?_
  refine xld C X hX hb hbA q1 dL_law__899 ?_
  refine lv_aload_n C.1 C.2.1 dL_law__900 rfl (lv_at hl 3 rfl) ?_
  obtain ⟨r901, σ901, e901, h⟩ := bnd2 h
  refine afW (r0 := r901) (σ' := σ901) X (runSW_ (n := 3) C G X k_1297 k_103 (by decide +kernel) k_1296 k_1295 (c_L_hours l E hT e901) rfl hl.1 rfl (Nat.le_of_ble_eq_true rfl) ⟨Nat.le_of_ble_eq_true rfl, Nat.le_of_ble_eq_true rfl⟩ ⟨by show _ ≤ 601024; omega, by show _ ≤ 7293034; omega⟩ dL_law__901) (fun H locs X => ?_)
  refine lv_istore (lv' := [(5, .int r901), (0, .ref b), (1, .ref (gB E + 0)), (2, .ref (gB E + 399)), (3, .ref (gB E + 411)), (4, .int i)]) C.1 C.2.1 dL_law__904 hl (by decide) rfl (fun ls hl => ?_)
  refine lv_aload_n C.1 C.2.1 dL_law__906 rfl (lv_at hl 3 rfl) ?_
  refine lv_aload_n C.1 C.2.1 dL_law__907 rfl (lv_at hl 1 rfl) ?_
  refine lv_iload C.1 C.2.1 dL_law__908 (lv_at hl 5 rfl) ?_
  refine lv_iconst (v := 1) C.1 C.2.1 dL_law__910 (by decide) ?_
  refine lv_iadd C.1 C.2.1 dL_law__911 ?_
  refine xld C X hX hb hbA q1 dL_law__912 ?_
  obtain ⟨r913, σ913, e913, h⟩ := bnd2 h
  refine afI (r0 := r913) (σ' := σ913) X (runV C G X q_X12_hours k_2021 k_2022 k_2020 (rcX12 G X kd_399) (c_X12_hours l E e913) rfl hl.1 rfl (Nat.le_of_ble_eq_true rfl) ⟨Nat.le_of_ble_eq_true rfl, Nat.le_of_ble_eq_true rfl⟩ ⟨by show _ ≤ 601024; omega, by show _ ≤ 7293034; omega⟩ dL_law__913) (fun H locs X => ?_)
  refine lv_istore (lv' := [(6, .int r913), (5, .int r901), (0, .ref b), (1, .ref (gB E + 0)), (2, .ref (gB E + 399)), (3, .ref (gB E + 411)), (4, .int i)]) C.1 C.2.1 dL_law__916 hl (by decide) rfl (fun ls hl => ?_)
  refine lv_aload_n C.1 C.2.1 dL_law__918 rfl (lv_at hl 4 rfl) ?_
  obtain ⟨r919, e919, h⟩ := bnd h
  refine afI X (runV C G X q_X12_thrown k_1722 k_1723 k_1721 (rcX12 G X kd_399) (c_X12_thrown l E e919) rfl hl.1 rfl (Nat.le_of_ble_eq_true rfl) ⟨Nat.le_of_ble_eq_true rfl, Nat.le_of_ble_eq_true rfl⟩ ⟨by show _ ≤ 601024; omega, by show _ ≤ 7293034; omega⟩ dL_law__919) (fun H locs X => ?_)
  refine lv_iload C.1 C.2.1 dL_law__922 (lv_at hl 1 rfl) ?_
  refine lv_icmp_eq (tgt := 929) C.1 C.2.1 dL_law__924 (by decide) (fun c924 => ?_) (fun c924 => ?_)
  · replace h := ipos c924 h
    refine lv_iload C.1 C.2.1 dL_law__929 (lv_at hl 1 rfl) ?_
    refine lv_if_ne (tgt := 946) C.1 C.2.1 dL_law__931 (by decide) (fun c931 => ?_) (fun c931 => ?_)
    · replace h := ineg c931 h
      refine lv_goto (tgt := 2792) C.1 C.2.1 dL_law__946 (by decide) ?_
      cases h
      refine W.widen (k := cells + 4) (n := slots + 24) (by omega) (by omega) ?_
      exact kk H locs ls (lw_sub hl (by simp [LwL])) X
    · replace h := ipos c931 h
      refine lv_aload_n C.1 C.2.1 dL_law__934 rfl (lv_at hl 5 rfl) ?_
      refine lv_iconst (v := 0) C.1 C.2.1 dL_law__935 (by decide) ?_
      refine ald_o C G X (k := 411) kd411 in411 dL_law__936 ?_
      refine lv_iload C.1 C.2.1 dL_law__937 (lv_at hl 0 rfl) ?_
      refine lv_i2l C.1 C.2.1 dL_law__939 rfl ?_
      refine W.lcmp C.1 C.2.1 dL_law__940 ?_
      refine lv_if_eq (tgt := 946) C.1 C.2.1 dL_law__941 (by decide) (fun c941 => ?_) (fun c941 => ?_)
      · replace h := ipos c941 h
        refine lv_goto (tgt := 2792) C.1 C.2.1 dL_law__946 (by decide) ?_
        cases h
        refine W.widen (k := cells + 4) (n := slots + 24) (by omega) (by omega) ?_
        exact kk H locs ls (lw_sub hl (by simp [LwL])) X
      · replace h := ineg c941 h
        refine lv_iconst (v := 0) C.1 C.2.1 dL_law__944 (by decide) ?_
        cases h
  · replace h := ineg c924 h
    refine lv_iconst (v := 0) C.1 C.2.1 dL_law__927 (by decide) ?_
    cases h
theorem lwc_12 (C : Cx p s m args meth c cL_law_ (some .boolean) 7 "PaneStreetLaw") (G : Gf E s) (hT : l.stackTraces = false) {x1 x2 x3 x4 x5 : Int32} (h : lw_12 x1 x2 x3 x4 x5 σ = some (true, σ')) (X : Hx E σ s H locs) (hl : lv_has ls 7 (LwL E b i)) (hX : va_X b L xs s s.heap) (hb : b < s.heap.size) (hbA : ¬ Fr E b) (q1 : LwX L xs (i + 1) x1) (q2 : LwX L xs (i + 2) x2) (q3 : LwX L xs (i + 3) x3) (q4 : LwX L xs (i + 4) x4) (q5 : LwX L xs (i + 5) x5) (hcc : cells ≤ 4000) (hss : slots ≤ 100000)
    (kk : ∀ (H1 : Heap) (locs1 : List Loc) (ls1 : Array Slot), lv_has ls1 7 (LwL E b i) → Hx E σ' s H1 locs1 → W p l e room_1 s m args below meth c H1 locs1 (cells + 4) (slots + 24) Q (F0 m 2792 ls1 [])) : W p l e room_1 s m args below meth c H locs cells slots Q (F0 m 949 ls []) := by
  unfold lw_12 at h
  unfold LwL at hl
  refine lv_aload_n C.1 C.2.1 dL_law__949 rfl (lv_at hl 1 rfl) ?_
  refine lv_aload_n C.1 C.2.1 dL_law__950 rfl (lv_at hl 0 rfl) ?_
  refine lv_iload C.1 C.2.1 dL_law__951 (lv_at hl 4 rfl) ?_
  refine lv_iconst (v := 1) C.1 C.2.1 dL_law__953 (by decide) ?_
  refine lv_iadd C.1 C.2.1 dL_law__954 ?_
  refine xld C X hX hb hbA q1 dL_law__955 ?_
  refine lv_aload_n C.1 C.2.1 dL_law__956 rfl (lv_at hl 0 rfl) ?_
  refine lv_iload C.1 C.2.1 dL_law__957 (lv_at hl 4 rfl) ?_
  refine lv_iconst (v := 2) C.1 C.2.1 dL_law__959 (by decide) ?_
  refine lv_iadd C.1 C.2.1 dL_law__960 ?_
  refine xld C X hX hb hbA q2 dL_law__961 ?_
  refine lv_aload_n C.1 C.2.1 dL_law__962 rfl (lv_at hl 3 rfl) ?_
  obtain ⟨r963, σ963, e963, h⟩ := bnd2 h
  refine afW (r0 := r963) (σ' := σ963) X (runSW_ (n := 4) C G X k_1314 k_103 (by decide +kernel) k_1313 k_1312 (c_L_heads l E hT e963) rfl hl.1 rfl (Nat.le_of_ble_eq_true rfl) ⟨Nat.le_of_ble_eq_true rfl, Nat.le_of_ble_eq_true rfl⟩ ⟨by show _ ≤ 601024; omega, by show _ ≤ 7293034; omega⟩ dL_law__963) (fun H locs X => ?_)
  refine lv_istore (lv' := [(5, .int r963), (0, .ref b), (1, .ref (gB E + 0)), (2, .ref (gB E + 399)), (3, .ref (gB E + 411)), (4, .int i)]) C.1 C.2.1 dL_law__966 hl (by decide) rfl (fun ls hl => ?_)
  refine lv_aload_n C.1 C.2.1 dL_law__968 rfl (lv_at hl 3 rfl) ?_
  refine lv_aload_n C.1 C.2.1 dL_law__969 rfl (lv_at hl 1 rfl) ?_
  refine lv_iload C.1 C.2.1 dL_law__970 (lv_at hl 5 rfl) ?_
  refine lv_iconst (v := 1) C.1 C.2.1 dL_law__972 (by decide) ?_
  refine lv_iadd C.1 C.2.1 dL_law__973 ?_
  refine xld C X hX hb hbA q1 dL_law__974 ?_
  refine lv_aload_n C.1 C.2.1 dL_law__975 rfl (lv_at hl 1 rfl) ?_
  refine lv_iload C.1 C.2.1 dL_law__976 (lv_at hl 5 rfl) ?_
  refine lv_iconst (v := 2) C.1 C.2.1 dL_law__978 (by decide) ?_
  refine lv_iadd C.1 C.2.1 dL_law__979 ?_
  refine xld C X hX hb hbA q2 dL_law__980 ?_
  obtain ⟨r981, σ981, e981, h⟩ := bnd2 h
  refine afI (r0 := r981) (σ' := σ981) X (runV C G X q_X12_heads k_2033 k_2034 k_2032 (rcX12 G X kd_399) (c_X12_heads l E e981) rfl hl.1 rfl (Nat.le_of_ble_eq_true rfl) ⟨Nat.le_of_ble_eq_true rfl, Nat.le_of_ble_eq_true rfl⟩ ⟨by show _ ≤ 601024; omega, by show _ ≤ 7293034; omega⟩ dL_law__981) (fun H locs X => ?_)
  refine lv_istore (lv' := [(6, .int r981), (5, .int r963), (0, .ref b), (1, .ref (gB E + 0)), (2, .ref (gB E + 399)), (3, .ref (gB E + 411)), (4, .int i)]) C.1 C.2.1 dL_law__984 hl (by decide) rfl (fun ls hl => ?_)
  refine lv_aload_n C.1 C.2.1 dL_law__986 rfl (lv_at hl 4 rfl) ?_
  obtain ⟨r987, e987, h⟩ := bnd h
  refine afI X (runV C G X q_X12_thrown k_1722 k_1723 k_1721 (rcX12 G X kd_399) (c_X12_thrown l E e987) rfl hl.1 rfl (Nat.le_of_ble_eq_true rfl) ⟨Nat.le_of_ble_eq_true rfl, Nat.le_of_ble_eq_true rfl⟩ ⟨by show _ ≤ 601024; omega, by show _ ≤ 7293034; omega⟩ dL_law__987) (fun H locs X => ?_)
  refine lv_iload C.1 C.2.1 dL_law__990 (lv_at hl 1 rfl) ?_
  refine lv_icmp_eq (tgt := 997) C.1 C.2.1 dL_law__992 (by decide) (fun c992 => ?_) (fun c992 => ?_)
  · replace h := ipos c992 h
    refine lv_iload C.1 C.2.1 dL_law__997 (lv_at hl 1 rfl) ?_
    refine lv_if_ne (tgt := 1014) C.1 C.2.1 dL_law__999 (by decide) (fun c999 => ?_) (fun c999 => ?_)
    · replace h := ineg c999 h
      refine lv_goto (tgt := 2792) C.1 C.2.1 dL_law__1014 (by decide) ?_
      cases h
      refine W.widen (k := cells + 4) (n := slots + 24) (by omega) (by omega) ?_
      exact kk H locs ls (lw_sub hl (by simp [LwL])) X
    · replace h := ipos c999 h
      refine lv_aload_n C.1 C.2.1 dL_law__1002 rfl (lv_at hl 5 rfl) ?_
      refine lv_iconst (v := 0) C.1 C.2.1 dL_law__1003 (by decide) ?_
      refine ald_o C G X (k := 411) kd411 in411 dL_law__1004 ?_
      refine lv_iload C.1 C.2.1 dL_law__1005 (lv_at hl 0 rfl) ?_
      refine lv_i2l C.1 C.2.1 dL_law__1007 rfl ?_
      refine W.lcmp C.1 C.2.1 dL_law__1008 ?_
      refine lv_if_eq (tgt := 1014) C.1 C.2.1 dL_law__1009 (by decide) (fun c1009 => ?_) (fun c1009 => ?_)
      · replace h := ipos c1009 h
        refine lv_goto (tgt := 2792) C.1 C.2.1 dL_law__1014 (by decide) ?_
        cases h
        refine W.widen (k := cells + 4) (n := slots + 24) (by omega) (by omega) ?_
        exact kk H locs ls (lw_sub hl (by simp [LwL])) X
      · replace h := ineg c1009 h
        refine lv_iconst (v := 0) C.1 C.2.1 dL_law__1012 (by decide) ?_
        cases h
  · replace h := ineg c992 h
    refine lv_iconst (v := 0) C.1 C.2.1 dL_law__995 (by decide) ?_
    cases h
theorem lwc_13 (C : Cx p s m args meth c cL_law_ (some .boolean) 7 "PaneStreetLaw") (G : Gf E s) (hT : l.stackTraces = false) {x1 x2 x3 x4 x5 : Int32} (h : lw_13 x1 x2 x3 x4 x5 σ = some (true, σ')) (X : Hx E σ s H locs) (hl : lv_has ls 7 (LwL E b i)) (hX : va_X b L xs s s.heap) (hb : b < s.heap.size) (hbA : ¬ Fr E b) (q1 : LwX L xs (i + 1) x1) (q2 : LwX L xs (i + 2) x2) (q3 : LwX L xs (i + 3) x3) (q4 : LwX L xs (i + 4) x4) (q5 : LwX L xs (i + 5) x5) (hcc : cells ≤ 4000) (hss : slots ≤ 100000)
    (kk : ∀ (H1 : Heap) (locs1 : List Loc) (ls1 : Array Slot), lv_has ls1 7 (LwL E b i) → Hx E σ' s H1 locs1 → W p l e room_1 s m args below meth c H1 locs1 (cells + 4) (slots + 24) Q (F0 m 2792 ls1 [])) : W p l e room_1 s m args below meth c H locs cells slots Q (F0 m 1017 ls []) := by
  unfold lw_13 at h
  unfold LwL at hl
  refine lv_aload_n C.1 C.2.1 dL_law__1017 rfl (lv_at hl 1 rfl) ?_
  refine lv_aload_n C.1 C.2.1 dL_law__1018 rfl (lv_at hl 0 rfl) ?_
  refine lv_iload C.1 C.2.1 dL_law__1019 (lv_at hl 4 rfl) ?_
  refine lv_iconst (v := 1) C.1 C.2.1 dL_law__1021 (by decide) ?_
  refine lv_iadd C.1 C.2.1 dL_law__1022 ?_
  refine xld C X hX hb hbA q1 dL_law__1023 ?_
  refine lv_aload_n C.1 C.2.1 dL_law__1024 rfl (lv_at hl 3 rfl) ?_
  obtain ⟨r1025, σ1025, e1025, h⟩ := bnd2 h
  refine afW (r0 := r1025) (σ' := σ1025) X (runSW_ (n := 3) C G X k_1322 k_103 (by decide +kernel) k_1321 k_1320 (c_L_strike l E hT e1025) rfl hl.1 rfl (Nat.le_of_ble_eq_true rfl) ⟨Nat.le_of_ble_eq_true rfl, Nat.le_of_ble_eq_true rfl⟩ ⟨by show _ ≤ 601024; omega, by show _ ≤ 7293034; omega⟩ dL_law__1025) (fun H locs X => ?_)
  refine lv_istore (lv' := [(5, .int r1025), (0, .ref b), (1, .ref (gB E + 0)), (2, .ref (gB E + 399)), (3, .ref (gB E + 411)), (4, .int i)]) C.1 C.2.1 dL_law__1028 hl (by decide) rfl (fun ls hl => ?_)
  refine lv_aload_n C.1 C.2.1 dL_law__1030 rfl (lv_at hl 3 rfl) ?_
  refine lv_aload_n C.1 C.2.1 dL_law__1031 rfl (lv_at hl 1 rfl) ?_
  refine lv_iload C.1 C.2.1 dL_law__1032 (lv_at hl 5 rfl) ?_
  refine lv_iconst (v := 1) C.1 C.2.1 dL_law__1034 (by decide) ?_
  refine lv_iadd C.1 C.2.1 dL_law__1035 ?_
  refine xld C X hX hb hbA q1 dL_law__1036 ?_
  obtain ⟨r1037, σ1037, e1037, h⟩ := bnd2 h
  refine afI (r0 := r1037) (σ' := σ1037) X (runV C G X q_X12_strike k_2041 k_2042 k_2040 (rcX12 G X kd_399) (c_X12_strike l E e1037) rfl hl.1 rfl (Nat.le_of_ble_eq_true rfl) ⟨Nat.le_of_ble_eq_true rfl, Nat.le_of_ble_eq_true rfl⟩ ⟨by show _ ≤ 601024; omega, by show _ ≤ 7293034; omega⟩ dL_law__1037) (fun H locs X => ?_)
  refine lv_istore (lv' := [(6, .int r1037), (5, .int r1025), (0, .ref b), (1, .ref (gB E + 0)), (2, .ref (gB E + 399)), (3, .ref (gB E + 411)), (4, .int i)]) C.1 C.2.1 dL_law__1040 hl (by decide) rfl (fun ls hl => ?_)
  refine lv_aload_n C.1 C.2.1 dL_law__1042 rfl (lv_at hl 4 rfl) ?_
  obtain ⟨r1043, e1043, h⟩ := bnd h
  refine afI X (runV C G X q_X12_thrown k_1722 k_1723 k_1721 (rcX12 G X kd_399) (c_X12_thrown l E e1043) rfl hl.1 rfl (Nat.le_of_ble_eq_true rfl) ⟨Nat.le_of_ble_eq_true rfl, Nat.le_of_ble_eq_true rfl⟩ ⟨by show _ ≤ 601024; omega, by show _ ≤ 7293034; omega⟩ dL_law__1043) (fun H locs X => ?_)
  refine lv_iload C.1 C.2.1 dL_law__1046 (lv_at hl 1 rfl) ?_
  refine lv_icmp_eq (tgt := 1053) C.1 C.2.1 dL_law__1048 (by decide) (fun c1048 => ?_) (fun c1048 => ?_)
  · replace h := ipos c1048 h
    refine lv_iload C.1 C.2.1 dL_law__1053 (lv_at hl 1 rfl) ?_
    refine lv_if_ne (tgt := 1070) C.1 C.2.1 dL_law__1055 (by decide) (fun c1055 => ?_) (fun c1055 => ?_)
    · replace h := ineg c1055 h
      refine lv_goto (tgt := 2792) C.1 C.2.1 dL_law__1070 (by decide) ?_
      cases h
      refine W.widen (k := cells + 4) (n := slots + 24) (by omega) (by omega) ?_
      exact kk H locs ls (lw_sub hl (by simp [LwL])) X
    · replace h := ipos c1055 h
      refine lv_aload_n C.1 C.2.1 dL_law__1058 rfl (lv_at hl 5 rfl) ?_
      refine lv_iconst (v := 0) C.1 C.2.1 dL_law__1059 (by decide) ?_
      refine ald_o C G X (k := 411) kd411 in411 dL_law__1060 ?_
      refine lv_iload C.1 C.2.1 dL_law__1061 (lv_at hl 0 rfl) ?_
      refine lv_i2l C.1 C.2.1 dL_law__1063 rfl ?_
      refine W.lcmp C.1 C.2.1 dL_law__1064 ?_
      refine lv_if_eq (tgt := 1070) C.1 C.2.1 dL_law__1065 (by decide) (fun c1065 => ?_) (fun c1065 => ?_)
      · replace h := ipos c1065 h
        refine lv_goto (tgt := 2792) C.1 C.2.1 dL_law__1070 (by decide) ?_
        cases h
        refine W.widen (k := cells + 4) (n := slots + 24) (by omega) (by omega) ?_
        exact kk H locs ls (lw_sub hl (by simp [LwL])) X
      · replace h := ineg c1065 h
        refine lv_iconst (v := 0) C.1 C.2.1 dL_law__1068 (by decide) ?_
        cases h
  · replace h := ineg c1048 h
    refine lv_iconst (v := 0) C.1 C.2.1 dL_law__1051 (by decide) ?_
    cases h
theorem lwc_14 (C : Cx p s m args meth c cL_law_ (some .boolean) 7 "PaneStreetLaw") (G : Gf E s) (hT : l.stackTraces = false) {x1 x2 x3 x4 x5 : Int32} (h : lw_14 x1 x2 x3 x4 x5 σ = some (true, σ')) (X : Hx E σ s H locs) (hl : lv_has ls 7 (LwL E b i)) (hX : va_X b L xs s s.heap) (hb : b < s.heap.size) (hbA : ¬ Fr E b) (q1 : LwX L xs (i + 1) x1) (q2 : LwX L xs (i + 2) x2) (q3 : LwX L xs (i + 3) x3) (q4 : LwX L xs (i + 4) x4) (q5 : LwX L xs (i + 5) x5) (hcc : cells ≤ 4000) (hss : slots ≤ 100000)
    (kk : ∀ (H1 : Heap) (locs1 : List Loc) (ls1 : Array Slot), lv_has ls1 7 (LwL E b i) → Hx E σ' s H1 locs1 → W p l e room_1 s m args below meth c H1 locs1 (cells + 4) (slots + 24) Q (F0 m 2792 ls1 [])) : W p l e room_1 s m args below meth c H locs cells slots Q (F0 m 1073 ls []) := by
  unfold lw_14 at h
  unfold LwL at hl
  refine lv_aload_n C.1 C.2.1 dL_law__1073 rfl (lv_at hl 1 rfl) ?_
  refine lv_aload_n C.1 C.2.1 dL_law__1074 rfl (lv_at hl 0 rfl) ?_
  refine lv_iload C.1 C.2.1 dL_law__1075 (lv_at hl 4 rfl) ?_
  refine lv_iconst (v := 1) C.1 C.2.1 dL_law__1077 (by decide) ?_
  refine lv_iadd C.1 C.2.1 dL_law__1078 ?_
  refine xld C X hX hb hbA q1 dL_law__1079 ?_
  refine lv_aload_n C.1 C.2.1 dL_law__1080 rfl (lv_at hl 3 rfl) ?_
  obtain ⟨r1081, σ1081, e1081, h⟩ := bnd2 h
  refine afW (r0 := r1081) (σ' := σ1081) X (runSW_ (n := 3) C G X k_1351 k_103 (by decide +kernel) k_1350 k_1349 (c_L_snuff l E hT e1081) rfl hl.1 rfl (Nat.le_of_ble_eq_true rfl) ⟨Nat.le_of_ble_eq_true rfl, Nat.le_of_ble_eq_true rfl⟩ ⟨by show _ ≤ 601024; omega, by show _ ≤ 7293034; omega⟩ dL_law__1081) (fun H locs X => ?_)
  refine lv_istore (lv' := [(5, .int r1081), (0, .ref b), (1, .ref (gB E + 0)), (2, .ref (gB E + 399)), (3, .ref (gB E + 411)), (4, .int i)]) C.1 C.2.1 dL_law__1084 hl (by decide) rfl (fun ls hl => ?_)
  refine lv_aload_n C.1 C.2.1 dL_law__1086 rfl (lv_at hl 3 rfl) ?_
  refine lv_aload_n C.1 C.2.1 dL_law__1087 rfl (lv_at hl 1 rfl) ?_
  refine lv_iload C.1 C.2.1 dL_law__1088 (lv_at hl 5 rfl) ?_
  refine lv_iconst (v := 1) C.1 C.2.1 dL_law__1090 (by decide) ?_
  refine lv_iadd C.1 C.2.1 dL_law__1091 ?_
  refine xld C X hX hb hbA q1 dL_law__1092 ?_
  obtain ⟨r1093, σ1093, e1093, h⟩ := bnd2 h
  refine afI (r0 := r1093) (σ' := σ1093) X (runV C G X q_X12_snuff k_2045 k_2046 k_2044 (rcX12 G X kd_399) (c_X12_snuff l E e1093) rfl hl.1 rfl (Nat.le_of_ble_eq_true rfl) ⟨Nat.le_of_ble_eq_true rfl, Nat.le_of_ble_eq_true rfl⟩ ⟨by show _ ≤ 601024; omega, by show _ ≤ 7293034; omega⟩ dL_law__1093) (fun H locs X => ?_)
  refine lv_istore (lv' := [(6, .int r1093), (5, .int r1081), (0, .ref b), (1, .ref (gB E + 0)), (2, .ref (gB E + 399)), (3, .ref (gB E + 411)), (4, .int i)]) C.1 C.2.1 dL_law__1096 hl (by decide) rfl (fun ls hl => ?_)
  refine lv_aload_n C.1 C.2.1 dL_law__1098 rfl (lv_at hl 4 rfl) ?_
  obtain ⟨r1099, e1099, h⟩ := bnd h
  refine afI X (runV C G X q_X12_thrown k_1722 k_1723 k_1721 (rcX12 G X kd_399) (c_X12_thrown l E e1099) rfl hl.1 rfl (Nat.le_of_ble_eq_true rfl) ⟨Nat.le_of_ble_eq_true rfl, Nat.le_of_ble_eq_true rfl⟩ ⟨by show _ ≤ 601024; omega, by show _ ≤ 7293034; omega⟩ dL_law__1099) (fun H locs X => ?_)
  refine lv_iload C.1 C.2.1 dL_law__1102 (lv_at hl 1 rfl) ?_
  refine lv_icmp_eq (tgt := 1109) C.1 C.2.1 dL_law__1104 (by decide) (fun c1104 => ?_) (fun c1104 => ?_)
  · replace h := ipos c1104 h
    refine lv_iload C.1 C.2.1 dL_law__1109 (lv_at hl 1 rfl) ?_
    refine lv_if_ne (tgt := 1126) C.1 C.2.1 dL_law__1111 (by decide) (fun c1111 => ?_) (fun c1111 => ?_)
    · replace h := ineg c1111 h
      refine lv_goto (tgt := 2792) C.1 C.2.1 dL_law__1126 (by decide) ?_
      cases h
      refine W.widen (k := cells + 4) (n := slots + 24) (by omega) (by omega) ?_
      exact kk H locs ls (lw_sub hl (by simp [LwL])) X
    · replace h := ipos c1111 h
      refine lv_aload_n C.1 C.2.1 dL_law__1114 rfl (lv_at hl 5 rfl) ?_
      refine lv_iconst (v := 0) C.1 C.2.1 dL_law__1115 (by decide) ?_
      refine ald_o C G X (k := 411) kd411 in411 dL_law__1116 ?_
      refine lv_iload C.1 C.2.1 dL_law__1117 (lv_at hl 0 rfl) ?_
      refine lv_i2l C.1 C.2.1 dL_law__1119 rfl ?_
      refine W.lcmp C.1 C.2.1 dL_law__1120 ?_
      refine lv_if_eq (tgt := 1126) C.1 C.2.1 dL_law__1121 (by decide) (fun c1121 => ?_) (fun c1121 => ?_)
      · replace h := ipos c1121 h
        refine lv_goto (tgt := 2792) C.1 C.2.1 dL_law__1126 (by decide) ?_
        cases h
        refine W.widen (k := cells + 4) (n := slots + 24) (by omega) (by omega) ?_
        exact kk H locs ls (lw_sub hl (by simp [LwL])) X
      · replace h := ineg c1121 h
        refine lv_iconst (v := 0) C.1 C.2.1 dL_law__1124 (by decide) ?_
        cases h
  · replace h := ineg c1104 h
    refine lv_iconst (v := 0) C.1 C.2.1 dL_law__1107 (by decide) ?_
    cases h
theorem lwc_15 (C : Cx p s m args meth c cL_law_ (some .boolean) 7 "PaneStreetLaw") (G : Gf E s) (hT : l.stackTraces = false) {x1 x2 x3 x4 x5 : Int32} (h : lw_15 x1 x2 x3 x4 x5 σ = some (true, σ')) (X : Hx E σ s H locs) (hl : lv_has ls 7 (LwL E b i)) (hX : va_X b L xs s s.heap) (hb : b < s.heap.size) (hbA : ¬ Fr E b) (q1 : LwX L xs (i + 1) x1) (q2 : LwX L xs (i + 2) x2) (q3 : LwX L xs (i + 3) x3) (q4 : LwX L xs (i + 4) x4) (q5 : LwX L xs (i + 5) x5) (hcc : cells ≤ 4000) (hss : slots ≤ 100000)
    (kk : ∀ (H1 : Heap) (locs1 : List Loc) (ls1 : Array Slot), lv_has ls1 7 (LwL E b i) → Hx E σ' s H1 locs1 → W p l e room_1 s m args below meth c H1 locs1 (cells + 4) (slots + 24) Q (F0 m 2792 ls1 [])) : W p l e room_1 s m args below meth c H locs cells slots Q (F0 m 1129 ls []) := by
  unfold lw_15 at h
  unfold LwL at hl
  refine lv_aload_n C.1 C.2.1 dL_law__1129 rfl (lv_at hl 1 rfl) ?_
  refine lv_aload_n C.1 C.2.1 dL_law__1130 rfl (lv_at hl 0 rfl) ?_
  refine lv_iload C.1 C.2.1 dL_law__1131 (lv_at hl 4 rfl) ?_
  refine lv_iconst (v := 1) C.1 C.2.1 dL_law__1133 (by decide) ?_
  refine lv_iadd C.1 C.2.1 dL_law__1134 ?_
  refine xld C X hX hb hbA q1 dL_law__1135 ?_
  refine lv_aload_n C.1 C.2.1 dL_law__1136 rfl (lv_at hl 0 rfl) ?_
  refine lv_iload C.1 C.2.1 dL_law__1137 (lv_at hl 4 rfl) ?_
  refine lv_iconst (v := 2) C.1 C.2.1 dL_law__1139 (by decide) ?_
  refine lv_iadd C.1 C.2.1 dL_law__1140 ?_
  refine xld C X hX hb hbA q2 dL_law__1141 ?_
  refine lv_aload_n C.1 C.2.1 dL_law__1142 rfl (lv_at hl 3 rfl) ?_
  obtain ⟨r1143, σ1143, e1143, h⟩ := bnd2 h
  refine afW (r0 := r1143) (σ' := σ1143) X (runSW_ (n := 4) C G X k_1361 k_103 (by decide +kernel) k_1360 k_1359 (c_L_oil l E hT e1143) rfl hl.1 rfl (Nat.le_of_ble_eq_true rfl) ⟨Nat.le_of_ble_eq_true rfl, Nat.le_of_ble_eq_true rfl⟩ ⟨by show _ ≤ 601024; omega, by show _ ≤ 7293034; omega⟩ dL_law__1143) (fun H locs X => ?_)
  refine lv_istore (lv' := [(5, .int r1143), (0, .ref b), (1, .ref (gB E + 0)), (2, .ref (gB E + 399)), (3, .ref (gB E + 411)), (4, .int i)]) C.1 C.2.1 dL_law__1146 hl (by decide) rfl (fun ls hl => ?_)
  refine lv_aload_n C.1 C.2.1 dL_law__1148 rfl (lv_at hl 3 rfl) ?_
  refine lv_aload_n C.1 C.2.1 dL_law__1149 rfl (lv_at hl 1 rfl) ?_
  refine lv_iload C.1 C.2.1 dL_law__1150 (lv_at hl 5 rfl) ?_
  refine lv_iconst (v := 1) C.1 C.2.1 dL_law__1152 (by decide) ?_
  refine lv_iadd C.1 C.2.1 dL_law__1153 ?_
  refine xld C X hX hb hbA q1 dL_law__1154 ?_
  refine lv_aload_n C.1 C.2.1 dL_law__1155 rfl (lv_at hl 1 rfl) ?_
  refine lv_iload C.1 C.2.1 dL_law__1156 (lv_at hl 5 rfl) ?_
  refine lv_iconst (v := 2) C.1 C.2.1 dL_law__1158 (by decide) ?_
  refine lv_iadd C.1 C.2.1 dL_law__1159 ?_
  refine xld C X hX hb hbA q2 dL_law__1160 ?_
  obtain ⟨r1161, σ1161, e1161, h⟩ := bnd2 h
  refine afI (r0 := r1161) (σ' := σ1161) X (runV C G X q_X12_oil k_2049 k_2050 k_2048 (rcX12 G X kd_399) (c_X12_oil l E e1161) rfl hl.1 rfl (Nat.le_of_ble_eq_true rfl) ⟨Nat.le_of_ble_eq_true rfl, Nat.le_of_ble_eq_true rfl⟩ ⟨by show _ ≤ 601024; omega, by show _ ≤ 7293034; omega⟩ dL_law__1161) (fun H locs X => ?_)
  refine lv_istore (lv' := [(6, .int r1161), (5, .int r1143), (0, .ref b), (1, .ref (gB E + 0)), (2, .ref (gB E + 399)), (3, .ref (gB E + 411)), (4, .int i)]) C.1 C.2.1 dL_law__1164 hl (by decide) rfl (fun ls hl => ?_)
  refine lv_aload_n C.1 C.2.1 dL_law__1166 rfl (lv_at hl 4 rfl) ?_
  obtain ⟨r1167, e1167, h⟩ := bnd h
  refine afI X (runV C G X q_X12_thrown k_1722 k_1723 k_1721 (rcX12 G X kd_399) (c_X12_thrown l E e1167) rfl hl.1 rfl (Nat.le_of_ble_eq_true rfl) ⟨Nat.le_of_ble_eq_true rfl, Nat.le_of_ble_eq_true rfl⟩ ⟨by show _ ≤ 601024; omega, by show _ ≤ 7293034; omega⟩ dL_law__1167) (fun H locs X => ?_)
  refine lv_iload C.1 C.2.1 dL_law__1170 (lv_at hl 1 rfl) ?_
  refine lv_icmp_eq (tgt := 1177) C.1 C.2.1 dL_law__1172 (by decide) (fun c1172 => ?_) (fun c1172 => ?_)
  · replace h := ipos c1172 h
    refine lv_iload C.1 C.2.1 dL_law__1177 (lv_at hl 1 rfl) ?_
    refine lv_if_ne (tgt := 1194) C.1 C.2.1 dL_law__1179 (by decide) (fun c1179 => ?_) (fun c1179 => ?_)
    · replace h := ineg c1179 h
      refine lv_goto (tgt := 2792) C.1 C.2.1 dL_law__1194 (by decide) ?_
      cases h
      refine W.widen (k := cells + 4) (n := slots + 24) (by omega) (by omega) ?_
      exact kk H locs ls (lw_sub hl (by simp [LwL])) X
    · replace h := ipos c1179 h
      refine lv_aload_n C.1 C.2.1 dL_law__1182 rfl (lv_at hl 5 rfl) ?_
      refine lv_iconst (v := 0) C.1 C.2.1 dL_law__1183 (by decide) ?_
      refine ald_o C G X (k := 411) kd411 in411 dL_law__1184 ?_
      refine lv_iload C.1 C.2.1 dL_law__1185 (lv_at hl 0 rfl) ?_
      refine lv_i2l C.1 C.2.1 dL_law__1187 rfl ?_
      refine W.lcmp C.1 C.2.1 dL_law__1188 ?_
      refine lv_if_eq (tgt := 1194) C.1 C.2.1 dL_law__1189 (by decide) (fun c1189 => ?_) (fun c1189 => ?_)
      · replace h := ipos c1189 h
        refine lv_goto (tgt := 2792) C.1 C.2.1 dL_law__1194 (by decide) ?_
        cases h
        refine W.widen (k := cells + 4) (n := slots + 24) (by omega) (by omega) ?_
        exact kk H locs ls (lw_sub hl (by simp [LwL])) X
      · replace h := ineg c1189 h
        refine lv_iconst (v := 0) C.1 C.2.1 dL_law__1192 (by decide) ?_
        cases h
  · replace h := ineg c1172 h
    refine lv_iconst (v := 0) C.1 C.2.1 dL_law__1175 (by decide) ?_
    cases h
theorem lwc_16 (C : Cx p s m args meth c cL_law_ (some .boolean) 7 "PaneStreetLaw") (G : Gf E s) (hT : l.stackTraces = false) {x1 x2 x3 x4 x5 : Int32} (h : lw_16 x1 x2 x3 x4 x5 σ = some (true, σ')) (X : Hx E σ s H locs) (hl : lv_has ls 7 (LwL E b i)) (hX : va_X b L xs s s.heap) (hb : b < s.heap.size) (hbA : ¬ Fr E b) (q1 : LwX L xs (i + 1) x1) (q2 : LwX L xs (i + 2) x2) (q3 : LwX L xs (i + 3) x3) (q4 : LwX L xs (i + 4) x4) (q5 : LwX L xs (i + 5) x5) (hcc : cells ≤ 4000) (hss : slots ≤ 100000)
    (kk : ∀ (H1 : Heap) (locs1 : List Loc) (ls1 : Array Slot), lv_has ls1 7 (LwL E b i) → Hx E σ' s H1 locs1 → W p l e room_1 s m args below meth c H1 locs1 (cells + 4) (slots + 24) Q (F0 m 2792 ls1 [])) : W p l e room_1 s m args below meth c H locs cells slots Q (F0 m 1197 ls []) := by
  unfold lw_16 at h
  unfold LwL at hl
  refine lv_aload_n C.1 C.2.1 dL_law__1197 rfl (lv_at hl 1 rfl) ?_
  refine lv_aload_n C.1 C.2.1 dL_law__1198 rfl (lv_at hl 0 rfl) ?_
  refine lv_iload C.1 C.2.1 dL_law__1199 (lv_at hl 4 rfl) ?_
  refine lv_iconst (v := 1) C.1 C.2.1 dL_law__1201 (by decide) ?_
  refine lv_iadd C.1 C.2.1 dL_law__1202 ?_
  refine xld C X hX hb hbA q1 dL_law__1203 ?_
  refine lv_aload_n C.1 C.2.1 dL_law__1204 rfl (lv_at hl 0 rfl) ?_
  refine lv_iload C.1 C.2.1 dL_law__1205 (lv_at hl 4 rfl) ?_
  refine lv_iconst (v := 2) C.1 C.2.1 dL_law__1207 (by decide) ?_
  refine lv_iadd C.1 C.2.1 dL_law__1208 ?_
  refine xld C X hX hb hbA q2 dL_law__1209 ?_
  refine lv_aload_n C.1 C.2.1 dL_law__1210 rfl (lv_at hl 3 rfl) ?_
  obtain ⟨r1211, σ1211, e1211, h⟩ := bnd2 h
  refine afW (r0 := r1211) (σ' := σ1211) X (runSW_ (n := 4) C G X k_1369 k_103 (by decide +kernel) k_1368 k_1367 (c_L_taper l E hT e1211) rfl hl.1 rfl (Nat.le_of_ble_eq_true rfl) ⟨Nat.le_of_ble_eq_true rfl, Nat.le_of_ble_eq_true rfl⟩ ⟨by show _ ≤ 601024; omega, by show _ ≤ 7293034; omega⟩ dL_law__1211) (fun H locs X => ?_)
  refine lv_istore (lv' := [(5, .int r1211), (0, .ref b), (1, .ref (gB E + 0)), (2, .ref (gB E + 399)), (3, .ref (gB E + 411)), (4, .int i)]) C.1 C.2.1 dL_law__1214 hl (by decide) rfl (fun ls hl => ?_)
  refine lv_aload_n C.1 C.2.1 dL_law__1216 rfl (lv_at hl 3 rfl) ?_
  refine lv_aload_n C.1 C.2.1 dL_law__1217 rfl (lv_at hl 1 rfl) ?_
  refine lv_iload C.1 C.2.1 dL_law__1218 (lv_at hl 5 rfl) ?_
  refine lv_iconst (v := 1) C.1 C.2.1 dL_law__1220 (by decide) ?_
  refine lv_iadd C.1 C.2.1 dL_law__1221 ?_
  refine xld C X hX hb hbA q1 dL_law__1222 ?_
  refine lv_aload_n C.1 C.2.1 dL_law__1223 rfl (lv_at hl 1 rfl) ?_
  refine lv_iload C.1 C.2.1 dL_law__1224 (lv_at hl 5 rfl) ?_
  refine lv_iconst (v := 2) C.1 C.2.1 dL_law__1226 (by decide) ?_
  refine lv_iadd C.1 C.2.1 dL_law__1227 ?_
  refine xld C X hX hb hbA q2 dL_law__1228 ?_
  obtain ⟨r1229, σ1229, e1229, h⟩ := bnd2 h
  refine afI (r0 := r1229) (σ' := σ1229) X (runV C G X q_X12_taper k_2053 k_2054 k_2052 (rcX12 G X kd_399) (c_X12_taper l E e1229) rfl hl.1 rfl (Nat.le_of_ble_eq_true rfl) ⟨Nat.le_of_ble_eq_true rfl, Nat.le_of_ble_eq_true rfl⟩ ⟨by show _ ≤ 601024; omega, by show _ ≤ 7293034; omega⟩ dL_law__1229) (fun H locs X => ?_)
  refine lv_istore (lv' := [(6, .int r1229), (5, .int r1211), (0, .ref b), (1, .ref (gB E + 0)), (2, .ref (gB E + 399)), (3, .ref (gB E + 411)), (4, .int i)]) C.1 C.2.1 dL_law__1232 hl (by decide) rfl (fun ls hl => ?_)
  refine lv_aload_n C.1 C.2.1 dL_law__1234 rfl (lv_at hl 4 rfl) ?_
  obtain ⟨r1235, e1235, h⟩ := bnd h
  refine afI X (runV C G X q_X12_thrown k_1722 k_1723 k_1721 (rcX12 G X kd_399) (c_X12_thrown l E e1235) rfl hl.1 rfl (Nat.le_of_ble_eq_true rfl) ⟨Nat.le_of_ble_eq_true rfl, Nat.le_of_ble_eq_true rfl⟩ ⟨by show _ ≤ 601024; omega, by show _ ≤ 7293034; omega⟩ dL_law__1235) (fun H locs X => ?_)
  refine lv_iload C.1 C.2.1 dL_law__1238 (lv_at hl 1 rfl) ?_
  refine lv_icmp_eq (tgt := 1245) C.1 C.2.1 dL_law__1240 (by decide) (fun c1240 => ?_) (fun c1240 => ?_)
  · replace h := ipos c1240 h
    refine lv_iload C.1 C.2.1 dL_law__1245 (lv_at hl 1 rfl) ?_
    refine lv_if_ne (tgt := 1262) C.1 C.2.1 dL_law__1247 (by decide) (fun c1247 => ?_) (fun c1247 => ?_)
    · replace h := ineg c1247 h
      refine lv_goto (tgt := 2792) C.1 C.2.1 dL_law__1262 (by decide) ?_
      cases h
      refine W.widen (k := cells + 4) (n := slots + 24) (by omega) (by omega) ?_
      exact kk H locs ls (lw_sub hl (by simp [LwL])) X
    · replace h := ipos c1247 h
      refine lv_aload_n C.1 C.2.1 dL_law__1250 rfl (lv_at hl 5 rfl) ?_
      refine lv_iconst (v := 0) C.1 C.2.1 dL_law__1251 (by decide) ?_
      refine ald_o C G X (k := 411) kd411 in411 dL_law__1252 ?_
      refine lv_iload C.1 C.2.1 dL_law__1253 (lv_at hl 0 rfl) ?_
      refine lv_i2l C.1 C.2.1 dL_law__1255 rfl ?_
      refine W.lcmp C.1 C.2.1 dL_law__1256 ?_
      refine lv_if_eq (tgt := 1262) C.1 C.2.1 dL_law__1257 (by decide) (fun c1257 => ?_) (fun c1257 => ?_)
      · replace h := ipos c1257 h
        refine lv_goto (tgt := 2792) C.1 C.2.1 dL_law__1262 (by decide) ?_
        cases h
        refine W.widen (k := cells + 4) (n := slots + 24) (by omega) (by omega) ?_
        exact kk H locs ls (lw_sub hl (by simp [LwL])) X
      · replace h := ineg c1257 h
        refine lv_iconst (v := 0) C.1 C.2.1 dL_law__1260 (by decide) ?_
        cases h
  · replace h := ineg c1240 h
    refine lv_iconst (v := 0) C.1 C.2.1 dL_law__1243 (by decide) ?_
    cases h
theorem lwc_17 (C : Cx p s m args meth c cL_law_ (some .boolean) 7 "PaneStreetLaw") (G : Gf E s) (hT : l.stackTraces = false) {x1 x2 x3 x4 x5 : Int32} (h : lw_17 x1 x2 x3 x4 x5 σ = some (true, σ')) (X : Hx E σ s H locs) (hl : lv_has ls 7 (LwL E b i)) (hX : va_X b L xs s s.heap) (hb : b < s.heap.size) (hbA : ¬ Fr E b) (q1 : LwX L xs (i + 1) x1) (q2 : LwX L xs (i + 2) x2) (q3 : LwX L xs (i + 3) x3) (q4 : LwX L xs (i + 4) x4) (q5 : LwX L xs (i + 5) x5) (hcc : cells ≤ 4000) (hss : slots ≤ 100000)
    (kk : ∀ (H1 : Heap) (locs1 : List Loc) (ls1 : Array Slot), lv_has ls1 7 (LwL E b i) → Hx E σ' s H1 locs1 → W p l e room_1 s m args below meth c H1 locs1 (cells + 4) (slots + 24) Q (F0 m 2792 ls1 [])) : W p l e room_1 s m args below meth c H locs cells slots Q (F0 m 1265 ls []) := by
  unfold lw_17 at h
  unfold LwL at hl
  refine lv_aload_n C.1 C.2.1 dL_law__1265 rfl (lv_at hl 1 rfl) ?_
  refine lv_aload_n C.1 C.2.1 dL_law__1266 rfl (lv_at hl 0 rfl) ?_
  refine lv_iload C.1 C.2.1 dL_law__1267 (lv_at hl 4 rfl) ?_
  refine lv_iconst (v := 1) C.1 C.2.1 dL_law__1269 (by decide) ?_
  refine lv_iadd C.1 C.2.1 dL_law__1270 ?_
  refine xld C X hX hb hbA q1 dL_law__1271 ?_
  refine lv_aload_n C.1 C.2.1 dL_law__1272 rfl (lv_at hl 0 rfl) ?_
  refine lv_iload C.1 C.2.1 dL_law__1273 (lv_at hl 4 rfl) ?_
  refine lv_iconst (v := 2) C.1 C.2.1 dL_law__1275 (by decide) ?_
  refine lv_iadd C.1 C.2.1 dL_law__1276 ?_
  refine xld C X hX hb hbA q2 dL_law__1277 ?_
  refine lv_aload_n C.1 C.2.1 dL_law__1278 rfl (lv_at hl 0 rfl) ?_
  refine lv_iload C.1 C.2.1 dL_law__1279 (lv_at hl 4 rfl) ?_
  refine lv_iconst (v := 3) C.1 C.2.1 dL_law__1281 (by decide) ?_
  refine lv_iadd C.1 C.2.1 dL_law__1282 ?_
  refine xld C X hX hb hbA q3 dL_law__1283 ?_
  refine lv_aload_n C.1 C.2.1 dL_law__1284 rfl (lv_at hl 3 rfl) ?_
  obtain ⟨r1285, σ1285, e1285, h⟩ := bnd2 h
  refine afW (r0 := r1285) (σ' := σ1285) X (runSW_ (n := 5) C G X k_1376 k_103 (by decide +kernel) k_1375 k_1374 (c_L_like l E hT e1285) rfl hl.1 rfl (Nat.le_of_ble_eq_true rfl) ⟨Nat.le_of_ble_eq_true rfl, Nat.le_of_ble_eq_true rfl⟩ ⟨by show _ ≤ 601024; omega, by show _ ≤ 7293034; omega⟩ dL_law__1285) (fun H locs X => ?_)
  refine lv_istore (lv' := [(5, .int r1285), (0, .ref b), (1, .ref (gB E + 0)), (2, .ref (gB E + 399)), (3, .ref (gB E + 411)), (4, .int i)]) C.1 C.2.1 dL_law__1288 hl (by decide) rfl (fun ls hl => ?_)
  refine lv_aload_n C.1 C.2.1 dL_law__1290 rfl (lv_at hl 3 rfl) ?_
  refine lv_aload_n C.1 C.2.1 dL_law__1291 rfl (lv_at hl 1 rfl) ?_
  refine lv_iload C.1 C.2.1 dL_law__1292 (lv_at hl 5 rfl) ?_
  refine lv_iconst (v := 1) C.1 C.2.1 dL_law__1294 (by decide) ?_
  refine lv_iadd C.1 C.2.1 dL_law__1295 ?_
  refine xld C X hX hb hbA q1 dL_law__1296 ?_
  refine lv_aload_n C.1 C.2.1 dL_law__1297 rfl (lv_at hl 1 rfl) ?_
  refine lv_iload C.1 C.2.1 dL_law__1298 (lv_at hl 5 rfl) ?_
  refine lv_iconst (v := 2) C.1 C.2.1 dL_law__1300 (by decide) ?_
  refine lv_iadd C.1 C.2.1 dL_law__1301 ?_
  refine xld C X hX hb hbA q2 dL_law__1302 ?_
  refine lv_aload_n C.1 C.2.1 dL_law__1303 rfl (lv_at hl 1 rfl) ?_
  refine lv_iload C.1 C.2.1 dL_law__1304 (lv_at hl 5 rfl) ?_
  refine lv_iconst (v := 3) C.1 C.2.1 dL_law__1306 (by decide) ?_
  refine lv_iadd C.1 C.2.1 dL_law__1307 ?_
  refine xld C X hX hb hbA q3 dL_law__1308 ?_
  obtain ⟨r1309, σ1309, e1309, h⟩ := bnd2 h
  refine afI (r0 := r1309) (σ' := σ1309) X (runV C G X q_X12_like k_2057 k_2058 k_2056 (rcX12 G X kd_399) (c_X12_like l E e1309) rfl hl.1 rfl (Nat.le_of_ble_eq_true rfl) ⟨Nat.le_of_ble_eq_true rfl, Nat.le_of_ble_eq_true rfl⟩ ⟨by show _ ≤ 601024; omega, by show _ ≤ 7293034; omega⟩ dL_law__1309) (fun H locs X => ?_)
  refine lv_istore (lv' := [(6, .int r1309), (5, .int r1285), (0, .ref b), (1, .ref (gB E + 0)), (2, .ref (gB E + 399)), (3, .ref (gB E + 411)), (4, .int i)]) C.1 C.2.1 dL_law__1312 hl (by decide) rfl (fun ls hl => ?_)
  refine lv_aload_n C.1 C.2.1 dL_law__1314 rfl (lv_at hl 4 rfl) ?_
  obtain ⟨r1315, e1315, h⟩ := bnd h
  refine afI X (runV C G X q_X12_thrown k_1722 k_1723 k_1721 (rcX12 G X kd_399) (c_X12_thrown l E e1315) rfl hl.1 rfl (Nat.le_of_ble_eq_true rfl) ⟨Nat.le_of_ble_eq_true rfl, Nat.le_of_ble_eq_true rfl⟩ ⟨by show _ ≤ 601024; omega, by show _ ≤ 7293034; omega⟩ dL_law__1315) (fun H locs X => ?_)
  refine lv_iload C.1 C.2.1 dL_law__1318 (lv_at hl 1 rfl) ?_
  refine lv_icmp_eq (tgt := 1325) C.1 C.2.1 dL_law__1320 (by decide) (fun c1320 => ?_) (fun c1320 => ?_)
  · replace h := ipos c1320 h
    refine lv_iload C.1 C.2.1 dL_law__1325 (lv_at hl 1 rfl) ?_
    refine lv_if_ne (tgt := 1342) C.1 C.2.1 dL_law__1327 (by decide) (fun c1327 => ?_) (fun c1327 => ?_)
    · replace h := ineg c1327 h
      refine lv_goto (tgt := 2792) C.1 C.2.1 dL_law__1342 (by decide) ?_
      cases h
      exact kk H locs ls (lw_sub hl (by simp [LwL])) X
    · replace h := ipos c1327 h
      refine lv_aload_n C.1 C.2.1 dL_law__1330 rfl (lv_at hl 5 rfl) ?_
      refine lv_iconst (v := 0) C.1 C.2.1 dL_law__1331 (by decide) ?_
      refine ald_o C G X (k := 411) kd411 in411 dL_law__1332 ?_
      refine lv_iload C.1 C.2.1 dL_law__1333 (lv_at hl 0 rfl) ?_
      refine lv_i2l C.1 C.2.1 dL_law__1335 rfl ?_
      refine W.lcmp C.1 C.2.1 dL_law__1336 ?_
      refine lv_if_eq (tgt := 1342) C.1 C.2.1 dL_law__1337 (by decide) (fun c1337 => ?_) (fun c1337 => ?_)
      · replace h := ipos c1337 h
        refine lv_goto (tgt := 2792) C.1 C.2.1 dL_law__1342 (by decide) ?_
        cases h
        exact kk H locs ls (lw_sub hl (by simp [LwL])) X
      · replace h := ineg c1337 h
        refine lv_iconst (v := 0) C.1 C.2.1 dL_law__1340 (by decide) ?_
        cases h
  · replace h := ineg c1320 h
    refine lv_iconst (v := 0) C.1 C.2.1 dL_law__1323 (by decide) ?_
    cases h
theorem lwc_18 (C : Cx p s m args meth c cL_law_ (some .boolean) 7 "PaneStreetLaw") (G : Gf E s) (hT : l.stackTraces = false) {x1 x2 x3 x4 x5 : Int32} (h : lw_18 x1 x2 x3 x4 x5 σ = some (true, σ')) (X : Hx E σ s H locs) (hl : lv_has ls 7 (LwL E b i)) (hX : va_X b L xs s s.heap) (hb : b < s.heap.size) (hbA : ¬ Fr E b) (q1 : LwX L xs (i + 1) x1) (q2 : LwX L xs (i + 2) x2) (q3 : LwX L xs (i + 3) x3) (q4 : LwX L xs (i + 4) x4) (q5 : LwX L xs (i + 5) x5) (hcc : cells ≤ 4000) (hss : slots ≤ 100000)
    (kk : ∀ (H1 : Heap) (locs1 : List Loc) (ls1 : Array Slot), lv_has ls1 7 (LwL E b i) → Hx E σ' s H1 locs1 → W p l e room_1 s m args below meth c H1 locs1 (cells + 4) (slots + 24) Q (F0 m 2792 ls1 [])) : W p l e room_1 s m args below meth c H locs cells slots Q (F0 m 1345 ls []) := by
  unfold lw_18 at h
  unfold LwL at hl
  refine lv_aload_n C.1 C.2.1 dL_law__1345 rfl (lv_at hl 1 rfl) ?_
  refine lv_aload_n C.1 C.2.1 dL_law__1346 rfl (lv_at hl 0 rfl) ?_
  refine lv_iload C.1 C.2.1 dL_law__1347 (lv_at hl 4 rfl) ?_
  refine lv_iconst (v := 1) C.1 C.2.1 dL_law__1349 (by decide) ?_
  refine lv_iadd C.1 C.2.1 dL_law__1350 ?_
  refine xld C X hX hb hbA q1 dL_law__1351 ?_
  refine lv_aload_n C.1 C.2.1 dL_law__1352 rfl (lv_at hl 0 rfl) ?_
  refine lv_iload C.1 C.2.1 dL_law__1353 (lv_at hl 4 rfl) ?_
  refine lv_iconst (v := 2) C.1 C.2.1 dL_law__1355 (by decide) ?_
  refine lv_iadd C.1 C.2.1 dL_law__1356 ?_
  refine xld C X hX hb hbA q2 dL_law__1357 ?_
  refine lv_aload_n C.1 C.2.1 dL_law__1358 rfl (lv_at hl 0 rfl) ?_
  refine lv_iload C.1 C.2.1 dL_law__1359 (lv_at hl 4 rfl) ?_
  refine lv_iconst (v := 3) C.1 C.2.1 dL_law__1361 (by decide) ?_
  refine lv_iadd C.1 C.2.1 dL_law__1362 ?_
  refine xld C X hX hb hbA q3 dL_law__1363 ?_
  refine lv_if_eq (tgt := 1371) C.1 C.2.1 dL_law__1364 (by decide) (fun c1364 => ?_) (fun c1364 => ?_)
  · replace h := ipos c1364 h
    refine lv_iconst (v := 0) C.1 C.2.1 dL_law__1371 (by decide) ?_
    refine lv_aload_n C.1 C.2.1 dL_law__1372 rfl (lv_at hl 3 rfl) ?_
    obtain ⟨r1373, σ1373, e1373, h⟩ := bnd2 h
    refine afW (r0 := r1373) (σ' := σ1373) X (runSW_ (n := 5) C G X k_1384 k_103 (by decide +kernel) k_1383 k_1382 (c_L_way l E hT e1373) rfl hl.1 rfl (Nat.le_of_ble_eq_true rfl) ⟨Nat.le_of_ble_eq_true rfl, Nat.le_of_ble_eq_true rfl⟩ ⟨by show _ ≤ 601024; omega, by show _ ≤ 7293034; omega⟩ dL_law__1373) (fun H locs X => ?_)
    refine lv_istore (lv' := [(5, .int r1373), (0, .ref b), (1, .ref (gB E + 0)), (2, .ref (gB E + 399)), (3, .ref (gB E + 411)), (4, .int i)]) C.1 C.2.1 dL_law__1376 hl (by decide) rfl (fun ls hl => ?_)
    refine lv_aload_n C.1 C.2.1 dL_law__1378 rfl (lv_at hl 3 rfl) ?_
    refine lv_aload_n C.1 C.2.1 dL_law__1379 rfl (lv_at hl 1 rfl) ?_
    refine lv_iload C.1 C.2.1 dL_law__1380 (lv_at hl 5 rfl) ?_
    refine lv_iconst (v := 1) C.1 C.2.1 dL_law__1382 (by decide) ?_
    refine lv_iadd C.1 C.2.1 dL_law__1383 ?_
    refine xld C X hX hb hbA q1 dL_law__1384 ?_
    refine lv_aload_n C.1 C.2.1 dL_law__1385 rfl (lv_at hl 1 rfl) ?_
    refine lv_iload C.1 C.2.1 dL_law__1386 (lv_at hl 5 rfl) ?_
    refine lv_iconst (v := 2) C.1 C.2.1 dL_law__1388 (by decide) ?_
    refine lv_iadd C.1 C.2.1 dL_law__1389 ?_
    refine xld C X hX hb hbA q2 dL_law__1390 ?_
    refine lv_aload_n C.1 C.2.1 dL_law__1391 rfl (lv_at hl 1 rfl) ?_
    refine lv_iload C.1 C.2.1 dL_law__1392 (lv_at hl 5 rfl) ?_
    refine lv_iconst (v := 3) C.1 C.2.1 dL_law__1394 (by decide) ?_
    refine lv_iadd C.1 C.2.1 dL_law__1395 ?_
    refine xld C X hX hb hbA q3 dL_law__1396 ?_
    refine lv_if_eq (tgt := 1404) C.1 C.2.1 dL_law__1397 (by decide) (fun c1397 => ?_) (fun c1397 => ?_)
    · replace h := ipos c1397 h
      refine lv_iconst (v := 0) C.1 C.2.1 dL_law__1404 (by decide) ?_
      obtain ⟨r1405, σ1405, e1405, h⟩ := bnd2 h
      refine afI (r0 := r1405) (σ' := σ1405) X (runV C G X q_X12_way k_2061 k_2062 k_2060 (rcX12 G X kd_399) (c_X12_way l E e1405) rfl hl.1 rfl (Nat.le_of_ble_eq_true rfl) ⟨Nat.le_of_ble_eq_true rfl, Nat.le_of_ble_eq_true rfl⟩ ⟨by show _ ≤ 601024; omega, by show _ ≤ 7293034; omega⟩ dL_law__1405) (fun H locs X => ?_)
      refine lv_istore (lv' := [(6, .int r1405), (5, .int r1373), (0, .ref b), (1, .ref (gB E + 0)), (2, .ref (gB E + 399)), (3, .ref (gB E + 411)), (4, .int i)]) C.1 C.2.1 dL_law__1408 hl (by decide) rfl (fun ls hl => ?_)
      refine lv_aload_n C.1 C.2.1 dL_law__1410 rfl (lv_at hl 4 rfl) ?_
      obtain ⟨r1411, e1411, h⟩ := bnd h
      refine afI X (runV C G X q_X12_thrown k_1722 k_1723 k_1721 (rcX12 G X kd_399) (c_X12_thrown l E e1411) rfl hl.1 rfl (Nat.le_of_ble_eq_true rfl) ⟨Nat.le_of_ble_eq_true rfl, Nat.le_of_ble_eq_true rfl⟩ ⟨by show _ ≤ 601024; omega, by show _ ≤ 7293034; omega⟩ dL_law__1411) (fun H locs X => ?_)
      refine lv_iload C.1 C.2.1 dL_law__1414 (lv_at hl 1 rfl) ?_
      refine lv_icmp_eq (tgt := 1421) C.1 C.2.1 dL_law__1416 (by decide) (fun c1416 => ?_) (fun c1416 => ?_)
      · replace h := ipos c1416 h
        refine lv_iload C.1 C.2.1 dL_law__1421 (lv_at hl 1 rfl) ?_
        refine lv_if_ne (tgt := 1445) C.1 C.2.1 dL_law__1423 (by decide) (fun c1423 => ?_) (fun c1423 => ?_)
        · replace h := ineg c1423 h
          refine lv_goto (tgt := 2792) C.1 C.2.1 dL_law__1445 (by decide) ?_
          cases h
          refine W.widen (k := cells + 4) (n := slots + 24) (by omega) (by omega) ?_
          exact kk H locs ls (lw_sub hl (by simp [LwL])) X
        · replace h := ipos c1423 h
          refine lv_aload_n C.1 C.2.1 dL_law__1426 rfl (lv_at hl 5 rfl) ?_
          refine lv_iconst (v := 0) C.1 C.2.1 dL_law__1427 (by decide) ?_
          refine ald_o C G X (k := 411) kd411 in411 dL_law__1428 ?_
          refine lv_iload C.1 C.2.1 dL_law__1429 (lv_at hl 0 rfl) ?_
          refine lv_if_eq (tgt := 1438) C.1 C.2.1 dL_law__1431 (by decide) (fun c1431 => ?_) (fun c1431 => ?_)
          · replace h := ipos c1431 h
            refine lv_lconst (v := 0) C.1 C.2.1 dL_law__1438 (by decide) ?_
            refine W.lcmp C.1 C.2.1 dL_law__1439 ?_
            refine lv_if_eq (tgt := 1445) C.1 C.2.1 dL_law__1440 (by decide) (fun c1440 => ?_) (fun c1440 => ?_)
            · replace h := ipos c1440 h
              refine lv_goto (tgt := 2792) C.1 C.2.1 dL_law__1445 (by decide) ?_
              cases h
              refine W.widen (k := cells + 4) (n := slots + 24) (by omega) (by omega) ?_
              exact kk H locs ls (lw_sub hl (by simp [LwL])) X
            · replace h := ineg c1440 h
              refine lv_iconst (v := 0) C.1 C.2.1 dL_law__1443 (by decide) ?_
              cases h
          · replace h := ineg c1431 h
            refine lv_lconst (v := 1) C.1 C.2.1 dL_law__1434 (by decide) ?_
            refine lv_goto (tgt := 1439) C.1 C.2.1 dL_law__1435 (by decide) ?_
            refine W.lcmp C.1 C.2.1 dL_law__1439 ?_
            refine lv_if_eq (tgt := 1445) C.1 C.2.1 dL_law__1440 (by decide) (fun c1440 => ?_) (fun c1440 => ?_)
            · replace h := ipos c1440 h
              refine lv_goto (tgt := 2792) C.1 C.2.1 dL_law__1445 (by decide) ?_
              cases h
              refine W.widen (k := cells + 4) (n := slots + 24) (by omega) (by omega) ?_
              exact kk H locs ls (lw_sub hl (by simp [LwL])) X
            · replace h := ineg c1440 h
              refine lv_iconst (v := 0) C.1 C.2.1 dL_law__1443 (by decide) ?_
              cases h
      · replace h := ineg c1416 h
        refine lv_iconst (v := 0) C.1 C.2.1 dL_law__1419 (by decide) ?_
        cases h
    · replace h := ineg c1397 h
      refine lv_iconst (v := 1) C.1 C.2.1 dL_law__1400 (by decide) ?_
      refine lv_goto (tgt := 1405) C.1 C.2.1 dL_law__1401 (by decide) ?_
      obtain ⟨r1405, σ1405, e1405, h⟩ := bnd2 h
      refine afI (r0 := r1405) (σ' := σ1405) X (runV C G X q_X12_way k_2061 k_2062 k_2060 (rcX12 G X kd_399) (c_X12_way l E e1405) rfl hl.1 rfl (Nat.le_of_ble_eq_true rfl) ⟨Nat.le_of_ble_eq_true rfl, Nat.le_of_ble_eq_true rfl⟩ ⟨by show _ ≤ 601024; omega, by show _ ≤ 7293034; omega⟩ dL_law__1405) (fun H locs X => ?_)
      refine lv_istore (lv' := [(6, .int r1405), (5, .int r1373), (0, .ref b), (1, .ref (gB E + 0)), (2, .ref (gB E + 399)), (3, .ref (gB E + 411)), (4, .int i)]) C.1 C.2.1 dL_law__1408 hl (by decide) rfl (fun ls hl => ?_)
      refine lv_aload_n C.1 C.2.1 dL_law__1410 rfl (lv_at hl 4 rfl) ?_
      obtain ⟨r1411, e1411, h⟩ := bnd h
      refine afI X (runV C G X q_X12_thrown k_1722 k_1723 k_1721 (rcX12 G X kd_399) (c_X12_thrown l E e1411) rfl hl.1 rfl (Nat.le_of_ble_eq_true rfl) ⟨Nat.le_of_ble_eq_true rfl, Nat.le_of_ble_eq_true rfl⟩ ⟨by show _ ≤ 601024; omega, by show _ ≤ 7293034; omega⟩ dL_law__1411) (fun H locs X => ?_)
      refine lv_iload C.1 C.2.1 dL_law__1414 (lv_at hl 1 rfl) ?_
      refine lv_icmp_eq (tgt := 1421) C.1 C.2.1 dL_law__1416 (by decide) (fun c1416 => ?_) (fun c1416 => ?_)
      · replace h := ipos c1416 h
        refine lv_iload C.1 C.2.1 dL_law__1421 (lv_at hl 1 rfl) ?_
        refine lv_if_ne (tgt := 1445) C.1 C.2.1 dL_law__1423 (by decide) (fun c1423 => ?_) (fun c1423 => ?_)
        · replace h := ineg c1423 h
          refine lv_goto (tgt := 2792) C.1 C.2.1 dL_law__1445 (by decide) ?_
          cases h
          refine W.widen (k := cells + 4) (n := slots + 24) (by omega) (by omega) ?_
          exact kk H locs ls (lw_sub hl (by simp [LwL])) X
        · replace h := ipos c1423 h
          refine lv_aload_n C.1 C.2.1 dL_law__1426 rfl (lv_at hl 5 rfl) ?_
          refine lv_iconst (v := 0) C.1 C.2.1 dL_law__1427 (by decide) ?_
          refine ald_o C G X (k := 411) kd411 in411 dL_law__1428 ?_
          refine lv_iload C.1 C.2.1 dL_law__1429 (lv_at hl 0 rfl) ?_
          refine lv_if_eq (tgt := 1438) C.1 C.2.1 dL_law__1431 (by decide) (fun c1431 => ?_) (fun c1431 => ?_)
          · replace h := ipos c1431 h
            refine lv_lconst (v := 0) C.1 C.2.1 dL_law__1438 (by decide) ?_
            refine W.lcmp C.1 C.2.1 dL_law__1439 ?_
            refine lv_if_eq (tgt := 1445) C.1 C.2.1 dL_law__1440 (by decide) (fun c1440 => ?_) (fun c1440 => ?_)
            · replace h := ipos c1440 h
              refine lv_goto (tgt := 2792) C.1 C.2.1 dL_law__1445 (by decide) ?_
              cases h
              refine W.widen (k := cells + 4) (n := slots + 24) (by omega) (by omega) ?_
              exact kk H locs ls (lw_sub hl (by simp [LwL])) X
            · replace h := ineg c1440 h
              refine lv_iconst (v := 0) C.1 C.2.1 dL_law__1443 (by decide) ?_
              cases h
          · replace h := ineg c1431 h
            refine lv_lconst (v := 1) C.1 C.2.1 dL_law__1434 (by decide) ?_
            refine lv_goto (tgt := 1439) C.1 C.2.1 dL_law__1435 (by decide) ?_
            refine W.lcmp C.1 C.2.1 dL_law__1439 ?_
            refine lv_if_eq (tgt := 1445) C.1 C.2.1 dL_law__1440 (by decide) (fun c1440 => ?_) (fun c1440 => ?_)
            · replace h := ipos c1440 h
              refine lv_goto (tgt := 2792) C.1 C.2.1 dL_law__1445 (by decide) ?_
              cases h
              refine W.widen (k := cells + 4) (n := slots + 24) (by omega) (by omega) ?_
              exact kk H locs ls (lw_sub hl (by simp [LwL])) X
            · replace h := ineg c1440 h
              refine lv_iconst (v := 0) C.1 C.2.1 dL_law__1443 (by decide) ?_
              cases h
      · replace h := ineg c1416 h
        refine lv_iconst (v := 0) C.1 C.2.1 dL_law__1419 (by decide) ?_
        cases h
  · replace h := ineg c1364 h
    refine lv_iconst (v := 1) C.1 C.2.1 dL_law__1367 (by decide) ?_
    refine lv_goto (tgt := 1372) C.1 C.2.1 dL_law__1368 (by decide) ?_
    refine lv_aload_n C.1 C.2.1 dL_law__1372 rfl (lv_at hl 3 rfl) ?_
    obtain ⟨r1373, σ1373, e1373, h⟩ := bnd2 h
    refine afW (r0 := r1373) (σ' := σ1373) X (runSW_ (n := 5) C G X k_1384 k_103 (by decide +kernel) k_1383 k_1382 (c_L_way l E hT e1373) rfl hl.1 rfl (Nat.le_of_ble_eq_true rfl) ⟨Nat.le_of_ble_eq_true rfl, Nat.le_of_ble_eq_true rfl⟩ ⟨by show _ ≤ 601024; omega, by show _ ≤ 7293034; omega⟩ dL_law__1373) (fun H locs X => ?_)
    refine lv_istore (lv' := [(5, .int r1373), (0, .ref b), (1, .ref (gB E + 0)), (2, .ref (gB E + 399)), (3, .ref (gB E + 411)), (4, .int i)]) C.1 C.2.1 dL_law__1376 hl (by decide) rfl (fun ls hl => ?_)
    refine lv_aload_n C.1 C.2.1 dL_law__1378 rfl (lv_at hl 3 rfl) ?_
    refine lv_aload_n C.1 C.2.1 dL_law__1379 rfl (lv_at hl 1 rfl) ?_
    refine lv_iload C.1 C.2.1 dL_law__1380 (lv_at hl 5 rfl) ?_
    refine lv_iconst (v := 1) C.1 C.2.1 dL_law__1382 (by decide) ?_
    refine lv_iadd C.1 C.2.1 dL_law__1383 ?_
    refine xld C X hX hb hbA q1 dL_law__1384 ?_
    refine lv_aload_n C.1 C.2.1 dL_law__1385 rfl (lv_at hl 1 rfl) ?_
    refine lv_iload C.1 C.2.1 dL_law__1386 (lv_at hl 5 rfl) ?_
    refine lv_iconst (v := 2) C.1 C.2.1 dL_law__1388 (by decide) ?_
    refine lv_iadd C.1 C.2.1 dL_law__1389 ?_
    refine xld C X hX hb hbA q2 dL_law__1390 ?_
    refine lv_aload_n C.1 C.2.1 dL_law__1391 rfl (lv_at hl 1 rfl) ?_
    refine lv_iload C.1 C.2.1 dL_law__1392 (lv_at hl 5 rfl) ?_
    refine lv_iconst (v := 3) C.1 C.2.1 dL_law__1394 (by decide) ?_
    refine lv_iadd C.1 C.2.1 dL_law__1395 ?_
    refine xld C X hX hb hbA q3 dL_law__1396 ?_
    refine lv_if_eq (tgt := 1404) C.1 C.2.1 dL_law__1397 (by decide) (fun c1397 => ?_) (fun c1397 => ?_)
    · replace h := ipos c1397 h
      refine lv_iconst (v := 0) C.1 C.2.1 dL_law__1404 (by decide) ?_
      obtain ⟨r1405, σ1405, e1405, h⟩ := bnd2 h
      refine afI (r0 := r1405) (σ' := σ1405) X (runV C G X q_X12_way k_2061 k_2062 k_2060 (rcX12 G X kd_399) (c_X12_way l E e1405) rfl hl.1 rfl (Nat.le_of_ble_eq_true rfl) ⟨Nat.le_of_ble_eq_true rfl, Nat.le_of_ble_eq_true rfl⟩ ⟨by show _ ≤ 601024; omega, by show _ ≤ 7293034; omega⟩ dL_law__1405) (fun H locs X => ?_)
      refine lv_istore (lv' := [(6, .int r1405), (5, .int r1373), (0, .ref b), (1, .ref (gB E + 0)), (2, .ref (gB E + 399)), (3, .ref (gB E + 411)), (4, .int i)]) C.1 C.2.1 dL_law__1408 hl (by decide) rfl (fun ls hl => ?_)
      refine lv_aload_n C.1 C.2.1 dL_law__1410 rfl (lv_at hl 4 rfl) ?_
      obtain ⟨r1411, e1411, h⟩ := bnd h
      refine afI X (runV C G X q_X12_thrown k_1722 k_1723 k_1721 (rcX12 G X kd_399) (c_X12_thrown l E e1411) rfl hl.1 rfl (Nat.le_of_ble_eq_true rfl) ⟨Nat.le_of_ble_eq_true rfl, Nat.le_of_ble_eq_true rfl⟩ ⟨by show _ ≤ 601024; omega, by show _ ≤ 7293034; omega⟩ dL_law__1411) (fun H locs X => ?_)
      refine lv_iload C.1 C.2.1 dL_law__1414 (lv_at hl 1 rfl) ?_
      refine lv_icmp_eq (tgt := 1421) C.1 C.2.1 dL_law__1416 (by decide) (fun c1416 => ?_) (fun c1416 => ?_)
      · replace h := ipos c1416 h
        refine lv_iload C.1 C.2.1 dL_law__1421 (lv_at hl 1 rfl) ?_
        refine lv_if_ne (tgt := 1445) C.1 C.2.1 dL_law__1423 (by decide) (fun c1423 => ?_) (fun c1423 => ?_)
        · replace h := ineg c1423 h
          refine lv_goto (tgt := 2792) C.1 C.2.1 dL_law__1445 (by decide) ?_
          cases h
          refine W.widen (k := cells + 4) (n := slots + 24) (by omega) (by omega) ?_
          exact kk H locs ls (lw_sub hl (by simp [LwL])) X
        · replace h := ipos c1423 h
          refine lv_aload_n C.1 C.2.1 dL_law__1426 rfl (lv_at hl 5 rfl) ?_
          refine lv_iconst (v := 0) C.1 C.2.1 dL_law__1427 (by decide) ?_
          refine ald_o C G X (k := 411) kd411 in411 dL_law__1428 ?_
          refine lv_iload C.1 C.2.1 dL_law__1429 (lv_at hl 0 rfl) ?_
          refine lv_if_eq (tgt := 1438) C.1 C.2.1 dL_law__1431 (by decide) (fun c1431 => ?_) (fun c1431 => ?_)
          · replace h := ipos c1431 h
            refine lv_lconst (v := 0) C.1 C.2.1 dL_law__1438 (by decide) ?_
            refine W.lcmp C.1 C.2.1 dL_law__1439 ?_
            refine lv_if_eq (tgt := 1445) C.1 C.2.1 dL_law__1440 (by decide) (fun c1440 => ?_) (fun c1440 => ?_)
            · replace h := ipos c1440 h
              refine lv_goto (tgt := 2792) C.1 C.2.1 dL_law__1445 (by decide) ?_
              cases h
              refine W.widen (k := cells + 4) (n := slots + 24) (by omega) (by omega) ?_
              exact kk H locs ls (lw_sub hl (by simp [LwL])) X
            · replace h := ineg c1440 h
              refine lv_iconst (v := 0) C.1 C.2.1 dL_law__1443 (by decide) ?_
              cases h
          · replace h := ineg c1431 h
            refine lv_lconst (v := 1) C.1 C.2.1 dL_law__1434 (by decide) ?_
            refine lv_goto (tgt := 1439) C.1 C.2.1 dL_law__1435 (by decide) ?_
            refine W.lcmp C.1 C.2.1 dL_law__1439 ?_
            refine lv_if_eq (tgt := 1445) C.1 C.2.1 dL_law__1440 (by decide) (fun c1440 => ?_) (fun c1440 => ?_)
            · replace h := ipos c1440 h
              refine lv_goto (tgt := 2792) C.1 C.2.1 dL_law__1445 (by decide) ?_
              cases h
              refine W.widen (k := cells + 4) (n := slots + 24) (by omega) (by omega) ?_
              exact kk H locs ls (lw_sub hl (by simp [LwL])) X
            · replace h := ineg c1440 h
              refine lv_iconst (v := 0) C.1 C.2.1 dL_law__1443 (by decide) ?_
              cases h
      · replace h := ineg c1416 h
        refine lv_iconst (v := 0) C.1 C.2.1 dL_law__1419 (by decide) ?_
        cases h
    · replace h := ineg c1397 h
      refine lv_iconst (v := 1) C.1 C.2.1 dL_law__1400 (by decide) ?_
      refine lv_goto (tgt := 1405) C.1 C.2.1 dL_law__1401 (by decide) ?_
      obtain ⟨r1405, σ1405, e1405, h⟩ := bnd2 h
      refine afI (r0 := r1405) (σ' := σ1405) X (runV C G X q_X12_way k_2061 k_2062 k_2060 (rcX12 G X kd_399) (c_X12_way l E e1405) rfl hl.1 rfl (Nat.le_of_ble_eq_true rfl) ⟨Nat.le_of_ble_eq_true rfl, Nat.le_of_ble_eq_true rfl⟩ ⟨by show _ ≤ 601024; omega, by show _ ≤ 7293034; omega⟩ dL_law__1405) (fun H locs X => ?_)
      refine lv_istore (lv' := [(6, .int r1405), (5, .int r1373), (0, .ref b), (1, .ref (gB E + 0)), (2, .ref (gB E + 399)), (3, .ref (gB E + 411)), (4, .int i)]) C.1 C.2.1 dL_law__1408 hl (by decide) rfl (fun ls hl => ?_)
      refine lv_aload_n C.1 C.2.1 dL_law__1410 rfl (lv_at hl 4 rfl) ?_
      obtain ⟨r1411, e1411, h⟩ := bnd h
      refine afI X (runV C G X q_X12_thrown k_1722 k_1723 k_1721 (rcX12 G X kd_399) (c_X12_thrown l E e1411) rfl hl.1 rfl (Nat.le_of_ble_eq_true rfl) ⟨Nat.le_of_ble_eq_true rfl, Nat.le_of_ble_eq_true rfl⟩ ⟨by show _ ≤ 601024; omega, by show _ ≤ 7293034; omega⟩ dL_law__1411) (fun H locs X => ?_)
      refine lv_iload C.1 C.2.1 dL_law__1414 (lv_at hl 1 rfl) ?_
      refine lv_icmp_eq (tgt := 1421) C.1 C.2.1 dL_law__1416 (by decide) (fun c1416 => ?_) (fun c1416 => ?_)
      · replace h := ipos c1416 h
        refine lv_iload C.1 C.2.1 dL_law__1421 (lv_at hl 1 rfl) ?_
        refine lv_if_ne (tgt := 1445) C.1 C.2.1 dL_law__1423 (by decide) (fun c1423 => ?_) (fun c1423 => ?_)
        · replace h := ineg c1423 h
          refine lv_goto (tgt := 2792) C.1 C.2.1 dL_law__1445 (by decide) ?_
          cases h
          refine W.widen (k := cells + 4) (n := slots + 24) (by omega) (by omega) ?_
          exact kk H locs ls (lw_sub hl (by simp [LwL])) X
        · replace h := ipos c1423 h
          refine lv_aload_n C.1 C.2.1 dL_law__1426 rfl (lv_at hl 5 rfl) ?_
          refine lv_iconst (v := 0) C.1 C.2.1 dL_law__1427 (by decide) ?_
          refine ald_o C G X (k := 411) kd411 in411 dL_law__1428 ?_
          refine lv_iload C.1 C.2.1 dL_law__1429 (lv_at hl 0 rfl) ?_
          refine lv_if_eq (tgt := 1438) C.1 C.2.1 dL_law__1431 (by decide) (fun c1431 => ?_) (fun c1431 => ?_)
          · replace h := ipos c1431 h
            refine lv_lconst (v := 0) C.1 C.2.1 dL_law__1438 (by decide) ?_
            refine W.lcmp C.1 C.2.1 dL_law__1439 ?_
            refine lv_if_eq (tgt := 1445) C.1 C.2.1 dL_law__1440 (by decide) (fun c1440 => ?_) (fun c1440 => ?_)
            · replace h := ipos c1440 h
              refine lv_goto (tgt := 2792) C.1 C.2.1 dL_law__1445 (by decide) ?_
              cases h
              refine W.widen (k := cells + 4) (n := slots + 24) (by omega) (by omega) ?_
              exact kk H locs ls (lw_sub hl (by simp [LwL])) X
            · replace h := ineg c1440 h
              refine lv_iconst (v := 0) C.1 C.2.1 dL_law__1443 (by decide) ?_
              cases h
          · replace h := ineg c1431 h
            refine lv_lconst (v := 1) C.1 C.2.1 dL_law__1434 (by decide) ?_
            refine lv_goto (tgt := 1439) C.1 C.2.1 dL_law__1435 (by decide) ?_
            refine W.lcmp C.1 C.2.1 dL_law__1439 ?_
            refine lv_if_eq (tgt := 1445) C.1 C.2.1 dL_law__1440 (by decide) (fun c1440 => ?_) (fun c1440 => ?_)
            · replace h := ipos c1440 h
              refine lv_goto (tgt := 2792) C.1 C.2.1 dL_law__1445 (by decide) ?_
              cases h
              refine W.widen (k := cells + 4) (n := slots + 24) (by omega) (by omega) ?_
              exact kk H locs ls (lw_sub hl (by simp [LwL])) X
            · replace h := ineg c1440 h
              refine lv_iconst (v := 0) C.1 C.2.1 dL_law__1443 (by decide) ?_
              cases h
      · replace h := ineg c1416 h
        refine lv_iconst (v := 0) C.1 C.2.1 dL_law__1419 (by decide) ?_
        cases h
theorem lwc_19 (C : Cx p s m args meth c cL_law_ (some .boolean) 7 "PaneStreetLaw") (G : Gf E s) (hT : l.stackTraces = false) {x1 x2 x3 x4 x5 : Int32} (h : lw_19 x1 x2 x3 x4 x5 σ = some (true, σ')) (X : Hx E σ s H locs) (hl : lv_has ls 7 (LwL E b i)) (hX : va_X b L xs s s.heap) (hb : b < s.heap.size) (hbA : ¬ Fr E b) (q1 : LwX L xs (i + 1) x1) (q2 : LwX L xs (i + 2) x2) (q3 : LwX L xs (i + 3) x3) (q4 : LwX L xs (i + 4) x4) (q5 : LwX L xs (i + 5) x5) (hcc : cells ≤ 4000) (hss : slots ≤ 100000)
    (kk : ∀ (H1 : Heap) (locs1 : List Loc) (ls1 : Array Slot), lv_has ls1 7 (LwL E b i) → Hx E σ' s H1 locs1 → W p l e room_1 s m args below meth c H1 locs1 (cells + 4) (slots + 24) Q (F0 m 2792 ls1 [])) : W p l e room_1 s m args below meth c H locs cells slots Q (F0 m 1448 ls []) := by
  unfold lw_19 at h
  unfold LwL at hl
  refine lv_aload_n C.1 C.2.1 dL_law__1448 rfl (lv_at hl 1 rfl) ?_
  refine lv_aload_n C.1 C.2.1 dL_law__1449 rfl (lv_at hl 0 rfl) ?_
  refine lv_iload C.1 C.2.1 dL_law__1450 (lv_at hl 4 rfl) ?_
  refine lv_iconst (v := 1) C.1 C.2.1 dL_law__1452 (by decide) ?_
  refine lv_iadd C.1 C.2.1 dL_law__1453 ?_
  refine xld C X hX hb hbA q1 dL_law__1454 ?_
  refine lv_aload_n C.1 C.2.1 dL_law__1455 rfl (lv_at hl 0 rfl) ?_
  refine lv_iload C.1 C.2.1 dL_law__1456 (lv_at hl 4 rfl) ?_
  refine lv_iconst (v := 2) C.1 C.2.1 dL_law__1458 (by decide) ?_
  refine lv_iadd C.1 C.2.1 dL_law__1459 ?_
  refine xld C X hX hb hbA q2 dL_law__1460 ?_
  refine lv_aload_n C.1 C.2.1 dL_law__1461 rfl (lv_at hl 3 rfl) ?_
  obtain ⟨r1462, σ1462, e1462, h⟩ := bnd2 h
  refine afW (r0 := r1462) (σ' := σ1462) X (runSW_ (n := 4) C G X k_1392 k_103 (by decide +kernel) k_1391 k_1390 (c_L_far l E hT e1462) rfl hl.1 rfl (Nat.le_of_ble_eq_true rfl) ⟨Nat.le_of_ble_eq_true rfl, Nat.le_of_ble_eq_true rfl⟩ ⟨by show _ ≤ 601024; omega, by show _ ≤ 7293034; omega⟩ dL_law__1462) (fun H locs X => ?_)
  refine lv_istore (lv' := [(5, .int r1462), (0, .ref b), (1, .ref (gB E + 0)), (2, .ref (gB E + 399)), (3, .ref (gB E + 411)), (4, .int i)]) C.1 C.2.1 dL_law__1465 hl (by decide) rfl (fun ls hl => ?_)
  refine lv_aload_n C.1 C.2.1 dL_law__1467 rfl (lv_at hl 3 rfl) ?_
  refine lv_aload_n C.1 C.2.1 dL_law__1468 rfl (lv_at hl 1 rfl) ?_
  refine lv_iload C.1 C.2.1 dL_law__1469 (lv_at hl 5 rfl) ?_
  refine lv_iconst (v := 1) C.1 C.2.1 dL_law__1471 (by decide) ?_
  refine lv_iadd C.1 C.2.1 dL_law__1472 ?_
  refine xld C X hX hb hbA q1 dL_law__1473 ?_
  refine lv_aload_n C.1 C.2.1 dL_law__1474 rfl (lv_at hl 1 rfl) ?_
  refine lv_iload C.1 C.2.1 dL_law__1475 (lv_at hl 5 rfl) ?_
  refine lv_iconst (v := 2) C.1 C.2.1 dL_law__1477 (by decide) ?_
  refine lv_iadd C.1 C.2.1 dL_law__1478 ?_
  refine xld C X hX hb hbA q2 dL_law__1479 ?_
  obtain ⟨r1480, σ1480, e1480, h⟩ := bnd2 h
  refine afI (r0 := r1480) (σ' := σ1480) X (runV C G X q_X12_far k_2065 k_2066 k_2064 (rcX12 G X kd_399) (c_X12_far l E e1480) rfl hl.1 rfl (Nat.le_of_ble_eq_true rfl) ⟨Nat.le_of_ble_eq_true rfl, Nat.le_of_ble_eq_true rfl⟩ ⟨by show _ ≤ 601024; omega, by show _ ≤ 7293034; omega⟩ dL_law__1480) (fun H locs X => ?_)
  refine lv_istore (lv' := [(6, .int r1480), (5, .int r1462), (0, .ref b), (1, .ref (gB E + 0)), (2, .ref (gB E + 399)), (3, .ref (gB E + 411)), (4, .int i)]) C.1 C.2.1 dL_law__1483 hl (by decide) rfl (fun ls hl => ?_)
  refine lv_aload_n C.1 C.2.1 dL_law__1485 rfl (lv_at hl 4 rfl) ?_
  obtain ⟨r1486, e1486, h⟩ := bnd h
  refine afI X (runV C G X q_X12_thrown k_1722 k_1723 k_1721 (rcX12 G X kd_399) (c_X12_thrown l E e1486) rfl hl.1 rfl (Nat.le_of_ble_eq_true rfl) ⟨Nat.le_of_ble_eq_true rfl, Nat.le_of_ble_eq_true rfl⟩ ⟨by show _ ≤ 601024; omega, by show _ ≤ 7293034; omega⟩ dL_law__1486) (fun H locs X => ?_)
  refine lv_iload C.1 C.2.1 dL_law__1489 (lv_at hl 1 rfl) ?_
  refine lv_icmp_eq (tgt := 1496) C.1 C.2.1 dL_law__1491 (by decide) (fun c1491 => ?_) (fun c1491 => ?_)
  · replace h := ipos c1491 h
    refine lv_iload C.1 C.2.1 dL_law__1496 (lv_at hl 1 rfl) ?_
    refine lv_if_ne (tgt := 1513) C.1 C.2.1 dL_law__1498 (by decide) (fun c1498 => ?_) (fun c1498 => ?_)
    · replace h := ineg c1498 h
      refine lv_goto (tgt := 2792) C.1 C.2.1 dL_law__1513 (by decide) ?_
      cases h
      refine W.widen (k := cells + 4) (n := slots + 24) (by omega) (by omega) ?_
      exact kk H locs ls (lw_sub hl (by simp [LwL])) X
    · replace h := ipos c1498 h
      refine lv_aload_n C.1 C.2.1 dL_law__1501 rfl (lv_at hl 5 rfl) ?_
      refine lv_iconst (v := 0) C.1 C.2.1 dL_law__1502 (by decide) ?_
      refine ald_o C G X (k := 411) kd411 in411 dL_law__1503 ?_
      refine lv_iload C.1 C.2.1 dL_law__1504 (lv_at hl 0 rfl) ?_
      refine lv_i2l C.1 C.2.1 dL_law__1506 rfl ?_
      refine W.lcmp C.1 C.2.1 dL_law__1507 ?_
      refine lv_if_eq (tgt := 1513) C.1 C.2.1 dL_law__1508 (by decide) (fun c1508 => ?_) (fun c1508 => ?_)
      · replace h := ipos c1508 h
        refine lv_goto (tgt := 2792) C.1 C.2.1 dL_law__1513 (by decide) ?_
        cases h
        refine W.widen (k := cells + 4) (n := slots + 24) (by omega) (by omega) ?_
        exact kk H locs ls (lw_sub hl (by simp [LwL])) X
      · replace h := ineg c1508 h
        refine lv_iconst (v := 0) C.1 C.2.1 dL_law__1511 (by decide) ?_
        cases h
  · replace h := ineg c1491 h
    refine lv_iconst (v := 0) C.1 C.2.1 dL_law__1494 (by decide) ?_
    cases h
theorem lwc_20 (C : Cx p s m args meth c cL_law_ (some .boolean) 7 "PaneStreetLaw") (G : Gf E s) (hT : l.stackTraces = false) {x1 x2 x3 x4 x5 : Int32} (h : lw_20 x1 x2 x3 x4 x5 σ = some (true, σ')) (X : Hx E σ s H locs) (hl : lv_has ls 7 (LwL E b i)) (hX : va_X b L xs s s.heap) (hb : b < s.heap.size) (hbA : ¬ Fr E b) (q1 : LwX L xs (i + 1) x1) (q2 : LwX L xs (i + 2) x2) (q3 : LwX L xs (i + 3) x3) (q4 : LwX L xs (i + 4) x4) (q5 : LwX L xs (i + 5) x5) (hcc : cells ≤ 4000) (hss : slots ≤ 100000)
    (kk : ∀ (H1 : Heap) (locs1 : List Loc) (ls1 : Array Slot), lv_has ls1 7 (LwL E b i) → Hx E σ' s H1 locs1 → W p l e room_1 s m args below meth c H1 locs1 (cells + 4) (slots + 24) Q (F0 m 2792 ls1 [])) : W p l e room_1 s m args below meth c H locs cells slots Q (F0 m 1516 ls []) := by
  unfold lw_20 at h
  unfold LwL at hl
  refine lv_aload_n C.1 C.2.1 dL_law__1516 rfl (lv_at hl 1 rfl) ?_
  obtain ⟨r1517, σ1517, e1517, h⟩ := bnd2 h
  refine afI (r0 := r1517) (σ' := σ1517) X (runV C G X q_X11_out k_463 k_464 k_462 (rcX11 G X kd_0) (c_X11_out l E e1517) rfl hl.1 rfl (Nat.le_of_ble_eq_true rfl) ⟨Nat.le_of_ble_eq_true rfl, Nat.le_of_ble_eq_true rfl⟩ ⟨by show _ ≤ 601024; omega, by show _ ≤ 7293034; omega⟩ dL_law__1517) (fun H locs X => ?_)
  refine lv_aload_n C.1 C.2.1 dL_law__1520 rfl (lv_at hl 2 rfl) ?_
  obtain ⟨r1521, σ1521, e1521, h⟩ := bnd2 h
  refine afI (r0 := r1521) (σ' := σ1521) X (runV C G X q_X12_out k_2069 k_2070 k_2068 (rcX12 G X kd_399) (c_X12_out l E e1521) rfl hl.1 rfl (Nat.le_of_ble_eq_true rfl) ⟨Nat.le_of_ble_eq_true rfl, Nat.le_of_ble_eq_true rfl⟩ ⟨by show _ ≤ 601024; omega, by show _ ≤ 7293034; omega⟩ dL_law__1521) (fun H locs X => ?_)
  refine lv_icmp_eq (tgt := 2792) C.1 C.2.1 dL_law__1524 (by decide) (fun c1524 => ?_) (fun c1524 => ?_)
  · replace h := ipos c1524 h
    cases h
    refine W.widen (k := cells + 4) (n := slots + 24) (by omega) (by omega) ?_
    exact kk H locs ls (lw_sub hl (by simp [LwL])) X
  · replace h := ineg c1524 h
    refine lv_iconst (v := 0) C.1 C.2.1 dL_law__1527 (by decide) ?_
    cases h
theorem lwc_21 (C : Cx p s m args meth c cL_law_ (some .boolean) 7 "PaneStreetLaw") (G : Gf E s) (hT : l.stackTraces = false) {x1 x2 x3 x4 x5 : Int32} (h : lw_21 x1 x2 x3 x4 x5 σ = some (true, σ')) (X : Hx E σ s H locs) (hl : lv_has ls 7 (LwL E b i)) (hX : va_X b L xs s s.heap) (hb : b < s.heap.size) (hbA : ¬ Fr E b) (q1 : LwX L xs (i + 1) x1) (q2 : LwX L xs (i + 2) x2) (q3 : LwX L xs (i + 3) x3) (q4 : LwX L xs (i + 4) x4) (q5 : LwX L xs (i + 5) x5) (hcc : cells ≤ 4000) (hss : slots ≤ 100000)
    (kk : ∀ (H1 : Heap) (locs1 : List Loc) (ls1 : Array Slot), lv_has ls1 7 (LwL E b i) → Hx E σ' s H1 locs1 → W p l e room_1 s m args below meth c H1 locs1 (cells + 4) (slots + 24) Q (F0 m 2792 ls1 [])) : W p l e room_1 s m args below meth c H locs cells slots Q (F0 m 1529 ls []) := by
  unfold lw_21 at h
  unfold LwL at hl
  refine lv_aload_n C.1 C.2.1 dL_law__1529 rfl (lv_at hl 1 rfl) ?_
  obtain ⟨r1530, σ1530, e1530, h⟩ := bnd2 h
  refine afI (r0 := r1530) (σ' := σ1530) X (runV C G X q_X11_spoon k_606 k_607 k_605 (rcX11 G X kd_0) (c_X11_spoon l E e1530) rfl hl.1 rfl (Nat.le_of_ble_eq_true rfl) ⟨Nat.le_of_ble_eq_true rfl, Nat.le_of_ble_eq_true rfl⟩ ⟨by show _ ≤ 601024; omega, by show _ ≤ 7293034; omega⟩ dL_law__1530) (fun H locs X => ?_)
  refine lv_aload_n C.1 C.2.1 dL_law__1533 rfl (lv_at hl 2 rfl) ?_
  obtain ⟨r1534, σ1534, e1534, h⟩ := bnd2 h
  refine afI (r0 := r1534) (σ' := σ1534) X (runV C G X q_X12_spoon k_2077 k_2078 k_2076 (rcX12 G X kd_399) (c_X12_spoon l E e1534) rfl hl.1 rfl (Nat.le_of_ble_eq_true rfl) ⟨Nat.le_of_ble_eq_true rfl, Nat.le_of_ble_eq_true rfl⟩ ⟨by show _ ≤ 601024; omega, by show _ ≤ 7293034; omega⟩ dL_law__1534) (fun H locs X => ?_)
  refine lv_icmp_eq (tgt := 2792) C.1 C.2.1 dL_law__1537 (by decide) (fun c1537 => ?_) (fun c1537 => ?_)
  · replace h := ipos c1537 h
    cases h
    refine W.widen (k := cells + 4) (n := slots + 24) (by omega) (by omega) ?_
    exact kk H locs ls (lw_sub hl (by simp [LwL])) X
  · replace h := ineg c1537 h
    refine lv_iconst (v := 0) C.1 C.2.1 dL_law__1540 (by decide) ?_
    cases h
theorem lwc_22 (C : Cx p s m args meth c cL_law_ (some .boolean) 7 "PaneStreetLaw") (G : Gf E s) (hT : l.stackTraces = false) {x1 x2 x3 x4 x5 : Int32} (h : lw_22 x1 x2 x3 x4 x5 σ = some (true, σ')) (X : Hx E σ s H locs) (hl : lv_has ls 7 (LwL E b i)) (hX : va_X b L xs s s.heap) (hb : b < s.heap.size) (hbA : ¬ Fr E b) (q1 : LwX L xs (i + 1) x1) (q2 : LwX L xs (i + 2) x2) (q3 : LwX L xs (i + 3) x3) (q4 : LwX L xs (i + 4) x4) (q5 : LwX L xs (i + 5) x5) (hcc : cells ≤ 4000) (hss : slots ≤ 100000)
    (kk : ∀ (H1 : Heap) (locs1 : List Loc) (ls1 : Array Slot), lv_has ls1 7 (LwL E b i) → Hx E σ' s H1 locs1 → W p l e room_1 s m args below meth c H1 locs1 (cells + 4) (slots + 24) Q (F0 m 2792 ls1 [])) : W p l e room_1 s m args below meth c H locs cells slots Q (F0 m 1542 ls []) := by
  unfold lw_22 at h
  unfold LwL at hl
  refine lv_aload_n C.1 C.2.1 dL_law__1542 rfl (lv_at hl 1 rfl) ?_
  obtain ⟨r1543, σ1543, e1543, h⟩ := bnd2 h
  refine afI (r0 := r1543) (σ' := σ1543) X (runV C G X q_X11_never k_614 k_615 k_613 (rcX11 G X kd_0) (c_X11_never l E e1543) rfl hl.1 rfl (Nat.le_of_ble_eq_true rfl) ⟨Nat.le_of_ble_eq_true rfl, Nat.le_of_ble_eq_true rfl⟩ ⟨by show _ ≤ 601024; omega, by show _ ≤ 7293034; omega⟩ dL_law__1543) (fun H locs X => ?_)
  refine lv_aload_n C.1 C.2.1 dL_law__1546 rfl (lv_at hl 2 rfl) ?_
  obtain ⟨r1547, σ1547, e1547, h⟩ := bnd2 h
  refine afI (r0 := r1547) (σ' := σ1547) X (runV C G X q_X12_never k_2081 k_2082 k_2080 (rcX12 G X kd_399) (c_X12_never l E e1547) rfl hl.1 rfl (Nat.le_of_ble_eq_true rfl) ⟨Nat.le_of_ble_eq_true rfl, Nat.le_of_ble_eq_true rfl⟩ ⟨by show _ ≤ 601024; omega, by show _ ≤ 7293034; omega⟩ dL_law__1547) (fun H locs X => ?_)
  refine lv_icmp_eq (tgt := 2792) C.1 C.2.1 dL_law__1550 (by decide) (fun c1550 => ?_) (fun c1550 => ?_)
  · replace h := ipos c1550 h
    cases h
    refine W.widen (k := cells + 4) (n := slots + 24) (by omega) (by omega) ?_
    exact kk H locs ls (lw_sub hl (by simp [LwL])) X
  · replace h := ineg c1550 h
    refine lv_iconst (v := 0) C.1 C.2.1 dL_law__1553 (by decide) ?_
    cases h
theorem lwc_23 (C : Cx p s m args meth c cL_law_ (some .boolean) 7 "PaneStreetLaw") (G : Gf E s) (hT : l.stackTraces = false) {x1 x2 x3 x4 x5 : Int32} (h : lw_23 x1 x2 x3 x4 x5 σ = some (true, σ')) (X : Hx E σ s H locs) (hl : lv_has ls 7 (LwL E b i)) (hX : va_X b L xs s s.heap) (hb : b < s.heap.size) (hbA : ¬ Fr E b) (q1 : LwX L xs (i + 1) x1) (q2 : LwX L xs (i + 2) x2) (q3 : LwX L xs (i + 3) x3) (q4 : LwX L xs (i + 4) x4) (q5 : LwX L xs (i + 5) x5) (hcc : cells ≤ 4000) (hss : slots ≤ 100000)
    (kk : ∀ (H1 : Heap) (locs1 : List Loc) (ls1 : Array Slot), lv_has ls1 7 (LwL E b i) → Hx E σ' s H1 locs1 → W p l e room_1 s m args below meth c H1 locs1 (cells + 4) (slots + 24) Q (F0 m 2792 ls1 [])) : W p l e room_1 s m args below meth c H locs cells slots Q (F0 m 1555 ls []) := by
  unfold lw_23 at h
  unfold LwL at hl
  refine lv_aload_n C.1 C.2.1 dL_law__1555 rfl (lv_at hl 1 rfl) ?_
  refine lv_aload_n C.1 C.2.1 dL_law__1556 rfl (lv_at hl 0 rfl) ?_
  refine lv_iload C.1 C.2.1 dL_law__1557 (lv_at hl 4 rfl) ?_
  refine lv_iconst (v := 1) C.1 C.2.1 dL_law__1559 (by decide) ?_
  refine lv_iadd C.1 C.2.1 dL_law__1560 ?_
  refine xld C X hX hb hbA q1 dL_law__1561 ?_
  refine lv_aload_n C.1 C.2.1 dL_law__1562 rfl (lv_at hl 0 rfl) ?_
  refine lv_iload C.1 C.2.1 dL_law__1563 (lv_at hl 4 rfl) ?_
  refine lv_iconst (v := 2) C.1 C.2.1 dL_law__1565 (by decide) ?_
  refine lv_iadd C.1 C.2.1 dL_law__1566 ?_
  refine xld C X hX hb hbA q2 dL_law__1567 ?_
  refine lv_if_eq (tgt := 1575) C.1 C.2.1 dL_law__1568 (by decide) (fun c1568 => ?_) (fun c1568 => ?_)
  · replace h := ipos c1568 h
    refine lv_iconst (v := 0) C.1 C.2.1 dL_law__1575 (by decide) ?_
    refine lv_aload_n C.1 C.2.1 dL_law__1576 rfl (lv_at hl 3 rfl) ?_
    obtain ⟨r1577, σ1577, e1577, h⟩ := bnd2 h
    refine afW (r0 := r1577) (σ' := σ1577) X (runSW_ (n := 4) C G X k_1400 k_103 (by decide +kernel) k_1399 k_1398 (c_L_round l E hT e1577) rfl hl.1 rfl (Nat.le_of_ble_eq_true rfl) ⟨Nat.le_of_ble_eq_true rfl, Nat.le_of_ble_eq_true rfl⟩ ⟨by show _ ≤ 601024; omega, by show _ ≤ 7293034; omega⟩ dL_law__1577) (fun H locs X => ?_)
    refine lv_istore (lv' := [(5, .int r1577), (0, .ref b), (1, .ref (gB E + 0)), (2, .ref (gB E + 399)), (3, .ref (gB E + 411)), (4, .int i)]) C.1 C.2.1 dL_law__1580 hl (by decide) rfl (fun ls hl => ?_)
    refine lv_aload_n C.1 C.2.1 dL_law__1582 rfl (lv_at hl 3 rfl) ?_
    refine lv_aload_n C.1 C.2.1 dL_law__1583 rfl (lv_at hl 1 rfl) ?_
    refine lv_iload C.1 C.2.1 dL_law__1584 (lv_at hl 5 rfl) ?_
    refine lv_iconst (v := 1) C.1 C.2.1 dL_law__1586 (by decide) ?_
    refine lv_iadd C.1 C.2.1 dL_law__1587 ?_
    refine xld C X hX hb hbA q1 dL_law__1588 ?_
    refine lv_aload_n C.1 C.2.1 dL_law__1589 rfl (lv_at hl 1 rfl) ?_
    refine lv_iload C.1 C.2.1 dL_law__1590 (lv_at hl 5 rfl) ?_
    refine lv_iconst (v := 2) C.1 C.2.1 dL_law__1592 (by decide) ?_
    refine lv_iadd C.1 C.2.1 dL_law__1593 ?_
    refine xld C X hX hb hbA q2 dL_law__1594 ?_
    refine lv_if_eq (tgt := 1602) C.1 C.2.1 dL_law__1595 (by decide) (fun c1595 => ?_) (fun c1595 => ?_)
    · replace h := ipos c1595 h
      refine lv_iconst (v := 0) C.1 C.2.1 dL_law__1602 (by decide) ?_
      obtain ⟨r1603, σ1603, e1603, h⟩ := bnd2 h
      refine afI (r0 := r1603) (σ' := σ1603) X (runV C G X q_X12_round k_2085 k_2086 k_2084 (rcX12 G X kd_399) (c_X12_round l E e1603) rfl hl.1 rfl (Nat.le_of_ble_eq_true rfl) ⟨Nat.le_of_ble_eq_true rfl, Nat.le_of_ble_eq_true rfl⟩ ⟨by show _ ≤ 601024; omega, by show _ ≤ 7293034; omega⟩ dL_law__1603) (fun H locs X => ?_)
      refine lv_istore (lv' := [(6, .int r1603), (5, .int r1577), (0, .ref b), (1, .ref (gB E + 0)), (2, .ref (gB E + 399)), (3, .ref (gB E + 411)), (4, .int i)]) C.1 C.2.1 dL_law__1606 hl (by decide) rfl (fun ls hl => ?_)
      refine lv_aload_n C.1 C.2.1 dL_law__1608 rfl (lv_at hl 4 rfl) ?_
      obtain ⟨r1609, e1609, h⟩ := bnd h
      refine afI X (runV C G X q_X12_thrown k_1722 k_1723 k_1721 (rcX12 G X kd_399) (c_X12_thrown l E e1609) rfl hl.1 rfl (Nat.le_of_ble_eq_true rfl) ⟨Nat.le_of_ble_eq_true rfl, Nat.le_of_ble_eq_true rfl⟩ ⟨by show _ ≤ 601024; omega, by show _ ≤ 7293034; omega⟩ dL_law__1609) (fun H locs X => ?_)
      refine lv_iload C.1 C.2.1 dL_law__1612 (lv_at hl 1 rfl) ?_
      refine lv_icmp_eq (tgt := 1619) C.1 C.2.1 dL_law__1614 (by decide) (fun c1614 => ?_) (fun c1614 => ?_)
      · replace h := ipos c1614 h
        refine lv_iload C.1 C.2.1 dL_law__1619 (lv_at hl 1 rfl) ?_
        refine lv_if_ne (tgt := 1636) C.1 C.2.1 dL_law__1621 (by decide) (fun c1621 => ?_) (fun c1621 => ?_)
        · replace h := ineg c1621 h
          refine lv_goto (tgt := 2792) C.1 C.2.1 dL_law__1636 (by decide) ?_
          cases h
          refine W.widen (k := cells + 4) (n := slots + 24) (by omega) (by omega) ?_
          exact kk H locs ls (lw_sub hl (by simp [LwL])) X
        · replace h := ipos c1621 h
          refine lv_aload_n C.1 C.2.1 dL_law__1624 rfl (lv_at hl 5 rfl) ?_
          refine lv_iconst (v := 0) C.1 C.2.1 dL_law__1625 (by decide) ?_
          refine ald_o C G X (k := 411) kd411 in411 dL_law__1626 ?_
          refine lv_iload C.1 C.2.1 dL_law__1627 (lv_at hl 0 rfl) ?_
          refine lv_i2l C.1 C.2.1 dL_law__1629 rfl ?_
          refine W.lcmp C.1 C.2.1 dL_law__1630 ?_
          refine lv_if_eq (tgt := 1636) C.1 C.2.1 dL_law__1631 (by decide) (fun c1631 => ?_) (fun c1631 => ?_)
          · replace h := ipos c1631 h
            refine lv_goto (tgt := 2792) C.1 C.2.1 dL_law__1636 (by decide) ?_
            cases h
            refine W.widen (k := cells + 4) (n := slots + 24) (by omega) (by omega) ?_
            exact kk H locs ls (lw_sub hl (by simp [LwL])) X
          · replace h := ineg c1631 h
            refine lv_iconst (v := 0) C.1 C.2.1 dL_law__1634 (by decide) ?_
            cases h
      · replace h := ineg c1614 h
        refine lv_iconst (v := 0) C.1 C.2.1 dL_law__1617 (by decide) ?_
        cases h
    · replace h := ineg c1595 h
      refine lv_iconst (v := 1) C.1 C.2.1 dL_law__1598 (by decide) ?_
      refine lv_goto (tgt := 1603) C.1 C.2.1 dL_law__1599 (by decide) ?_
      obtain ⟨r1603, σ1603, e1603, h⟩ := bnd2 h
      refine afI (r0 := r1603) (σ' := σ1603) X (runV C G X q_X12_round k_2085 k_2086 k_2084 (rcX12 G X kd_399) (c_X12_round l E e1603) rfl hl.1 rfl (Nat.le_of_ble_eq_true rfl) ⟨Nat.le_of_ble_eq_true rfl, Nat.le_of_ble_eq_true rfl⟩ ⟨by show _ ≤ 601024; omega, by show _ ≤ 7293034; omega⟩ dL_law__1603) (fun H locs X => ?_)
      refine lv_istore (lv' := [(6, .int r1603), (5, .int r1577), (0, .ref b), (1, .ref (gB E + 0)), (2, .ref (gB E + 399)), (3, .ref (gB E + 411)), (4, .int i)]) C.1 C.2.1 dL_law__1606 hl (by decide) rfl (fun ls hl => ?_)
      refine lv_aload_n C.1 C.2.1 dL_law__1608 rfl (lv_at hl 4 rfl) ?_
      obtain ⟨r1609, e1609, h⟩ := bnd h
      refine afI X (runV C G X q_X12_thrown k_1722 k_1723 k_1721 (rcX12 G X kd_399) (c_X12_thrown l E e1609) rfl hl.1 rfl (Nat.le_of_ble_eq_true rfl) ⟨Nat.le_of_ble_eq_true rfl, Nat.le_of_ble_eq_true rfl⟩ ⟨by show _ ≤ 601024; omega, by show _ ≤ 7293034; omega⟩ dL_law__1609) (fun H locs X => ?_)
      refine lv_iload C.1 C.2.1 dL_law__1612 (lv_at hl 1 rfl) ?_
      refine lv_icmp_eq (tgt := 1619) C.1 C.2.1 dL_law__1614 (by decide) (fun c1614 => ?_) (fun c1614 => ?_)
      · replace h := ipos c1614 h
        refine lv_iload C.1 C.2.1 dL_law__1619 (lv_at hl 1 rfl) ?_
        refine lv_if_ne (tgt := 1636) C.1 C.2.1 dL_law__1621 (by decide) (fun c1621 => ?_) (fun c1621 => ?_)
        · replace h := ineg c1621 h
          refine lv_goto (tgt := 2792) C.1 C.2.1 dL_law__1636 (by decide) ?_
          cases h
          refine W.widen (k := cells + 4) (n := slots + 24) (by omega) (by omega) ?_
          exact kk H locs ls (lw_sub hl (by simp [LwL])) X
        · replace h := ipos c1621 h
          refine lv_aload_n C.1 C.2.1 dL_law__1624 rfl (lv_at hl 5 rfl) ?_
          refine lv_iconst (v := 0) C.1 C.2.1 dL_law__1625 (by decide) ?_
          refine ald_o C G X (k := 411) kd411 in411 dL_law__1626 ?_
          refine lv_iload C.1 C.2.1 dL_law__1627 (lv_at hl 0 rfl) ?_
          refine lv_i2l C.1 C.2.1 dL_law__1629 rfl ?_
          refine W.lcmp C.1 C.2.1 dL_law__1630 ?_
          refine lv_if_eq (tgt := 1636) C.1 C.2.1 dL_law__1631 (by decide) (fun c1631 => ?_) (fun c1631 => ?_)
          · replace h := ipos c1631 h
            refine lv_goto (tgt := 2792) C.1 C.2.1 dL_law__1636 (by decide) ?_
            cases h
            refine W.widen (k := cells + 4) (n := slots + 24) (by omega) (by omega) ?_
            exact kk H locs ls (lw_sub hl (by simp [LwL])) X
          · replace h := ineg c1631 h
            refine lv_iconst (v := 0) C.1 C.2.1 dL_law__1634 (by decide) ?_
            cases h
      · replace h := ineg c1614 h
        refine lv_iconst (v := 0) C.1 C.2.1 dL_law__1617 (by decide) ?_
        cases h
  · replace h := ineg c1568 h
    refine lv_iconst (v := 1) C.1 C.2.1 dL_law__1571 (by decide) ?_
    refine lv_goto (tgt := 1576) C.1 C.2.1 dL_law__1572 (by decide) ?_
    refine lv_aload_n C.1 C.2.1 dL_law__1576 rfl (lv_at hl 3 rfl) ?_
    obtain ⟨r1577, σ1577, e1577, h⟩ := bnd2 h
    refine afW (r0 := r1577) (σ' := σ1577) X (runSW_ (n := 4) C G X k_1400 k_103 (by decide +kernel) k_1399 k_1398 (c_L_round l E hT e1577) rfl hl.1 rfl (Nat.le_of_ble_eq_true rfl) ⟨Nat.le_of_ble_eq_true rfl, Nat.le_of_ble_eq_true rfl⟩ ⟨by show _ ≤ 601024; omega, by show _ ≤ 7293034; omega⟩ dL_law__1577) (fun H locs X => ?_)
    refine lv_istore (lv' := [(5, .int r1577), (0, .ref b), (1, .ref (gB E + 0)), (2, .ref (gB E + 399)), (3, .ref (gB E + 411)), (4, .int i)]) C.1 C.2.1 dL_law__1580 hl (by decide) rfl (fun ls hl => ?_)
    refine lv_aload_n C.1 C.2.1 dL_law__1582 rfl (lv_at hl 3 rfl) ?_
    refine lv_aload_n C.1 C.2.1 dL_law__1583 rfl (lv_at hl 1 rfl) ?_
    refine lv_iload C.1 C.2.1 dL_law__1584 (lv_at hl 5 rfl) ?_
    refine lv_iconst (v := 1) C.1 C.2.1 dL_law__1586 (by decide) ?_
    refine lv_iadd C.1 C.2.1 dL_law__1587 ?_
    refine xld C X hX hb hbA q1 dL_law__1588 ?_
    refine lv_aload_n C.1 C.2.1 dL_law__1589 rfl (lv_at hl 1 rfl) ?_
    refine lv_iload C.1 C.2.1 dL_law__1590 (lv_at hl 5 rfl) ?_
    refine lv_iconst (v := 2) C.1 C.2.1 dL_law__1592 (by decide) ?_
    refine lv_iadd C.1 C.2.1 dL_law__1593 ?_
    refine xld C X hX hb hbA q2 dL_law__1594 ?_
    refine lv_if_eq (tgt := 1602) C.1 C.2.1 dL_law__1595 (by decide) (fun c1595 => ?_) (fun c1595 => ?_)
    · replace h := ipos c1595 h
      refine lv_iconst (v := 0) C.1 C.2.1 dL_law__1602 (by decide) ?_
      obtain ⟨r1603, σ1603, e1603, h⟩ := bnd2 h
      refine afI (r0 := r1603) (σ' := σ1603) X (runV C G X q_X12_round k_2085 k_2086 k_2084 (rcX12 G X kd_399) (c_X12_round l E e1603) rfl hl.1 rfl (Nat.le_of_ble_eq_true rfl) ⟨Nat.le_of_ble_eq_true rfl, Nat.le_of_ble_eq_true rfl⟩ ⟨by show _ ≤ 601024; omega, by show _ ≤ 7293034; omega⟩ dL_law__1603) (fun H locs X => ?_)
      refine lv_istore (lv' := [(6, .int r1603), (5, .int r1577), (0, .ref b), (1, .ref (gB E + 0)), (2, .ref (gB E + 399)), (3, .ref (gB E + 411)), (4, .int i)]) C.1 C.2.1 dL_law__1606 hl (by decide) rfl (fun ls hl => ?_)
      refine lv_aload_n C.1 C.2.1 dL_law__1608 rfl (lv_at hl 4 rfl) ?_
      obtain ⟨r1609, e1609, h⟩ := bnd h
      refine afI X (runV C G X q_X12_thrown k_1722 k_1723 k_1721 (rcX12 G X kd_399) (c_X12_thrown l E e1609) rfl hl.1 rfl (Nat.le_of_ble_eq_true rfl) ⟨Nat.le_of_ble_eq_true rfl, Nat.le_of_ble_eq_true rfl⟩ ⟨by show _ ≤ 601024; omega, by show _ ≤ 7293034; omega⟩ dL_law__1609) (fun H locs X => ?_)
      refine lv_iload C.1 C.2.1 dL_law__1612 (lv_at hl 1 rfl) ?_
      refine lv_icmp_eq (tgt := 1619) C.1 C.2.1 dL_law__1614 (by decide) (fun c1614 => ?_) (fun c1614 => ?_)
      · replace h := ipos c1614 h
        refine lv_iload C.1 C.2.1 dL_law__1619 (lv_at hl 1 rfl) ?_
        refine lv_if_ne (tgt := 1636) C.1 C.2.1 dL_law__1621 (by decide) (fun c1621 => ?_) (fun c1621 => ?_)
        · replace h := ineg c1621 h
          refine lv_goto (tgt := 2792) C.1 C.2.1 dL_law__1636 (by decide) ?_
          cases h
          refine W.widen (k := cells + 4) (n := slots + 24) (by omega) (by omega) ?_
          exact kk H locs ls (lw_sub hl (by simp [LwL])) X
        · replace h := ipos c1621 h
          refine lv_aload_n C.1 C.2.1 dL_law__1624 rfl (lv_at hl 5 rfl) ?_
          refine lv_iconst (v := 0) C.1 C.2.1 dL_law__1625 (by decide) ?_
          refine ald_o C G X (k := 411) kd411 in411 dL_law__1626 ?_
          refine lv_iload C.1 C.2.1 dL_law__1627 (lv_at hl 0 rfl) ?_
          refine lv_i2l C.1 C.2.1 dL_law__1629 rfl ?_
          refine W.lcmp C.1 C.2.1 dL_law__1630 ?_
          refine lv_if_eq (tgt := 1636) C.1 C.2.1 dL_law__1631 (by decide) (fun c1631 => ?_) (fun c1631 => ?_)
          · replace h := ipos c1631 h
            refine lv_goto (tgt := 2792) C.1 C.2.1 dL_law__1636 (by decide) ?_
            cases h
            refine W.widen (k := cells + 4) (n := slots + 24) (by omega) (by omega) ?_
            exact kk H locs ls (lw_sub hl (by simp [LwL])) X
          · replace h := ineg c1631 h
            refine lv_iconst (v := 0) C.1 C.2.1 dL_law__1634 (by decide) ?_
            cases h
      · replace h := ineg c1614 h
        refine lv_iconst (v := 0) C.1 C.2.1 dL_law__1617 (by decide) ?_
        cases h
    · replace h := ineg c1595 h
      refine lv_iconst (v := 1) C.1 C.2.1 dL_law__1598 (by decide) ?_
      refine lv_goto (tgt := 1603) C.1 C.2.1 dL_law__1599 (by decide) ?_
      obtain ⟨r1603, σ1603, e1603, h⟩ := bnd2 h
      refine afI (r0 := r1603) (σ' := σ1603) X (runV C G X q_X12_round k_2085 k_2086 k_2084 (rcX12 G X kd_399) (c_X12_round l E e1603) rfl hl.1 rfl (Nat.le_of_ble_eq_true rfl) ⟨Nat.le_of_ble_eq_true rfl, Nat.le_of_ble_eq_true rfl⟩ ⟨by show _ ≤ 601024; omega, by show _ ≤ 7293034; omega⟩ dL_law__1603) (fun H locs X => ?_)
      refine lv_istore (lv' := [(6, .int r1603), (5, .int r1577), (0, .ref b), (1, .ref (gB E + 0)), (2, .ref (gB E + 399)), (3, .ref (gB E + 411)), (4, .int i)]) C.1 C.2.1 dL_law__1606 hl (by decide) rfl (fun ls hl => ?_)
      refine lv_aload_n C.1 C.2.1 dL_law__1608 rfl (lv_at hl 4 rfl) ?_
      obtain ⟨r1609, e1609, h⟩ := bnd h
      refine afI X (runV C G X q_X12_thrown k_1722 k_1723 k_1721 (rcX12 G X kd_399) (c_X12_thrown l E e1609) rfl hl.1 rfl (Nat.le_of_ble_eq_true rfl) ⟨Nat.le_of_ble_eq_true rfl, Nat.le_of_ble_eq_true rfl⟩ ⟨by show _ ≤ 601024; omega, by show _ ≤ 7293034; omega⟩ dL_law__1609) (fun H locs X => ?_)
      refine lv_iload C.1 C.2.1 dL_law__1612 (lv_at hl 1 rfl) ?_
      refine lv_icmp_eq (tgt := 1619) C.1 C.2.1 dL_law__1614 (by decide) (fun c1614 => ?_) (fun c1614 => ?_)
      · replace h := ipos c1614 h
        refine lv_iload C.1 C.2.1 dL_law__1619 (lv_at hl 1 rfl) ?_
        refine lv_if_ne (tgt := 1636) C.1 C.2.1 dL_law__1621 (by decide) (fun c1621 => ?_) (fun c1621 => ?_)
        · replace h := ineg c1621 h
          refine lv_goto (tgt := 2792) C.1 C.2.1 dL_law__1636 (by decide) ?_
          cases h
          refine W.widen (k := cells + 4) (n := slots + 24) (by omega) (by omega) ?_
          exact kk H locs ls (lw_sub hl (by simp [LwL])) X
        · replace h := ipos c1621 h
          refine lv_aload_n C.1 C.2.1 dL_law__1624 rfl (lv_at hl 5 rfl) ?_
          refine lv_iconst (v := 0) C.1 C.2.1 dL_law__1625 (by decide) ?_
          refine ald_o C G X (k := 411) kd411 in411 dL_law__1626 ?_
          refine lv_iload C.1 C.2.1 dL_law__1627 (lv_at hl 0 rfl) ?_
          refine lv_i2l C.1 C.2.1 dL_law__1629 rfl ?_
          refine W.lcmp C.1 C.2.1 dL_law__1630 ?_
          refine lv_if_eq (tgt := 1636) C.1 C.2.1 dL_law__1631 (by decide) (fun c1631 => ?_) (fun c1631 => ?_)
          · replace h := ipos c1631 h
            refine lv_goto (tgt := 2792) C.1 C.2.1 dL_law__1636 (by decide) ?_
            cases h
            refine W.widen (k := cells + 4) (n := slots + 24) (by omega) (by omega) ?_
            exact kk H locs ls (lw_sub hl (by simp [LwL])) X
          · replace h := ineg c1631 h
            refine lv_iconst (v := 0) C.1 C.2.1 dL_law__1634 (by decide) ?_
            cases h
      · replace h := ineg c1614 h
        refine lv_iconst (v := 0) C.1 C.2.1 dL_law__1617 (by decide) ?_
        cases h
theorem lwc_24 (C : Cx p s m args meth c cL_law_ (some .boolean) 7 "PaneStreetLaw") (G : Gf E s) (hT : l.stackTraces = false) {x1 x2 x3 x4 x5 : Int32} (h : lw_24 x1 x2 x3 x4 x5 σ = some (true, σ')) (X : Hx E σ s H locs) (hl : lv_has ls 7 (LwL E b i)) (hX : va_X b L xs s s.heap) (hb : b < s.heap.size) (hbA : ¬ Fr E b) (q1 : LwX L xs (i + 1) x1) (q2 : LwX L xs (i + 2) x2) (q3 : LwX L xs (i + 3) x3) (q4 : LwX L xs (i + 4) x4) (q5 : LwX L xs (i + 5) x5) (hcc : cells ≤ 4000) (hss : slots ≤ 100000)
    (kk : ∀ (H1 : Heap) (locs1 : List Loc) (ls1 : Array Slot), lv_has ls1 7 (LwL E b i) → Hx E σ' s H1 locs1 → W p l e room_1 s m args below meth c H1 locs1 (cells + 4) (slots + 24) Q (F0 m 2792 ls1 [])) : W p l e room_1 s m args below meth c H locs cells slots Q (F0 m 1639 ls []) := by
  unfold lw_24 at h
  unfold LwL at hl
  refine lv_aload_n C.1 C.2.1 dL_law__1639 rfl (lv_at hl 1 rfl) ?_
  obtain ⟨r1640, e1640, h⟩ := bnd h
  refine afI X (runV C G X q_X11_beats k_631 k_632 k_630 (rcX11 G X kd_0) (c_X11_beats l E e1640) rfl hl.1 rfl (Nat.le_of_ble_eq_true rfl) ⟨Nat.le_of_ble_eq_true rfl, Nat.le_of_ble_eq_true rfl⟩ ⟨by show _ ≤ 601024; omega, by show _ ≤ 7293034; omega⟩ dL_law__1640) (fun H locs X => ?_)
  refine lv_aload_n C.1 C.2.1 dL_law__1643 rfl (lv_at hl 2 rfl) ?_
  obtain ⟨r1644, σ1644, e1644, h⟩ := bnd2 h
  refine afI (r0 := r1644) (σ' := σ1644) X (runV C G X q_X12_beats k_2101 k_2102 k_2100 (rcX12 G X kd_399) (c_X12_beats l E e1644) rfl hl.1 rfl (Nat.le_of_ble_eq_true rfl) ⟨Nat.le_of_ble_eq_true rfl, Nat.le_of_ble_eq_true rfl⟩ ⟨by show _ ≤ 601024; omega, by show _ ≤ 7293034; omega⟩ dL_law__1644) (fun H locs X => ?_)
  refine lv_icmp_eq (tgt := 2792) C.1 C.2.1 dL_law__1647 (by decide) (fun c1647 => ?_) (fun c1647 => ?_)
  · replace h := ipos c1647 h
    cases h
    refine W.widen (k := cells + 4) (n := slots + 24) (by omega) (by omega) ?_
    exact kk H locs ls (lw_sub hl (by simp [LwL])) X
  · replace h := ineg c1647 h
    refine lv_iconst (v := 0) C.1 C.2.1 dL_law__1650 (by decide) ?_
    cases h
theorem lwc_25 (C : Cx p s m args meth c cL_law_ (some .boolean) 7 "PaneStreetLaw") (G : Gf E s) (hT : l.stackTraces = false) {x1 x2 x3 x4 x5 : Int32} (h : lw_25 x1 x2 x3 x4 x5 σ = some (true, σ')) (X : Hx E σ s H locs) (hl : lv_has ls 7 (LwL E b i)) (hX : va_X b L xs s s.heap) (hb : b < s.heap.size) (hbA : ¬ Fr E b) (q1 : LwX L xs (i + 1) x1) (q2 : LwX L xs (i + 2) x2) (q3 : LwX L xs (i + 3) x3) (q4 : LwX L xs (i + 4) x4) (q5 : LwX L xs (i + 5) x5) (hcc : cells ≤ 4000) (hss : slots ≤ 100000)
    (kk : ∀ (H1 : Heap) (locs1 : List Loc) (ls1 : Array Slot), lv_has ls1 7 (LwL E b i) → Hx E σ' s H1 locs1 → W p l e room_1 s m args below meth c H1 locs1 (cells + 4) (slots + 24) Q (F0 m 2792 ls1 [])) : W p l e room_1 s m args below meth c H locs cells slots Q (F0 m 1652 ls []) := by
  unfold lw_25 at h
  unfold LwL at hl
  refine lv_aload_n C.1 C.2.1 dL_law__1652 rfl (lv_at hl 1 rfl) ?_
  obtain ⟨r1653, e1653, h⟩ := bnd h
  refine afI X (runV C G X q_X11_parts k_647 k_648 k_646 (rcX11 G X kd_0) (c_X11_parts l E e1653) rfl hl.1 rfl (Nat.le_of_ble_eq_true rfl) ⟨Nat.le_of_ble_eq_true rfl, Nat.le_of_ble_eq_true rfl⟩ ⟨by show _ ≤ 601024; omega, by show _ ≤ 7293034; omega⟩ dL_law__1653) (fun H locs X => ?_)
  refine lv_aload_n C.1 C.2.1 dL_law__1656 rfl (lv_at hl 2 rfl) ?_
  obtain ⟨r1657, σ1657, e1657, h⟩ := bnd2 h
  refine afI (r0 := r1657) (σ' := σ1657) X (runV C G X q_X12_parts k_2112 k_2113 k_2111 (rcX12 G X kd_399) (c_X12_parts l E e1657) rfl hl.1 rfl (Nat.le_of_ble_eq_true rfl) ⟨Nat.le_of_ble_eq_true rfl, Nat.le_of_ble_eq_true rfl⟩ ⟨by show _ ≤ 601024; omega, by show _ ≤ 7293034; omega⟩ dL_law__1657) (fun H locs X => ?_)
  refine lv_icmp_eq (tgt := 2792) C.1 C.2.1 dL_law__1660 (by decide) (fun c1660 => ?_) (fun c1660 => ?_)
  · replace h := ipos c1660 h
    cases h
    refine W.widen (k := cells + 4) (n := slots + 24) (by omega) (by omega) ?_
    exact kk H locs ls (lw_sub hl (by simp [LwL])) X
  · replace h := ineg c1660 h
    refine lv_iconst (v := 0) C.1 C.2.1 dL_law__1663 (by decide) ?_
    cases h
theorem lwc_26 (C : Cx p s m args meth c cL_law_ (some .boolean) 7 "PaneStreetLaw") (G : Gf E s) (hT : l.stackTraces = false) {x1 x2 x3 x4 x5 : Int32} (h : lw_26 x1 x2 x3 x4 x5 σ = some (true, σ')) (X : Hx E σ s H locs) (hl : lv_has ls 7 (LwL E b i)) (hX : va_X b L xs s s.heap) (hb : b < s.heap.size) (hbA : ¬ Fr E b) (q1 : LwX L xs (i + 1) x1) (q2 : LwX L xs (i + 2) x2) (q3 : LwX L xs (i + 3) x3) (q4 : LwX L xs (i + 4) x4) (q5 : LwX L xs (i + 5) x5) (hcc : cells ≤ 4000) (hss : slots ≤ 100000)
    (kk : ∀ (H1 : Heap) (locs1 : List Loc) (ls1 : Array Slot), lv_has ls1 7 (LwL E b i) → Hx E σ' s H1 locs1 → W p l e room_1 s m args below meth c H1 locs1 (cells + 4) (slots + 24) Q (F0 m 2792 ls1 [])) : W p l e room_1 s m args below meth c H locs cells slots Q (F0 m 1665 ls []) := by
  unfold lw_26 at h
  unfold LwL at hl
  refine lv_aload_n C.1 C.2.1 dL_law__1665 rfl (lv_at hl 1 rfl) ?_
  obtain ⟨r1666, e1666, h⟩ := bnd h
  refine afI X (runV C G X q_X11_bend k_660 k_661 k_659 (rcX11 G X kd_0) (c_X11_bend l E e1666) rfl hl.1 rfl (Nat.le_of_ble_eq_true rfl) ⟨Nat.le_of_ble_eq_true rfl, Nat.le_of_ble_eq_true rfl⟩ ⟨by show _ ≤ 601024; omega, by show _ ≤ 7293034; omega⟩ dL_law__1666) (fun H locs X => ?_)
  refine lv_aload_n C.1 C.2.1 dL_law__1669 rfl (lv_at hl 2 rfl) ?_
  obtain ⟨r1670, σ1670, e1670, h⟩ := bnd2 h
  refine afI (r0 := r1670) (σ' := σ1670) X (runV C G X q_X12_bend k_2120 k_2121 k_2119 (rcX12 G X kd_399) (c_X12_bend l E e1670) rfl hl.1 rfl (Nat.le_of_ble_eq_true rfl) ⟨Nat.le_of_ble_eq_true rfl, Nat.le_of_ble_eq_true rfl⟩ ⟨by show _ ≤ 601024; omega, by show _ ≤ 7293034; omega⟩ dL_law__1670) (fun H locs X => ?_)
  refine lv_icmp_eq (tgt := 2792) C.1 C.2.1 dL_law__1673 (by decide) (fun c1673 => ?_) (fun c1673 => ?_)
  · replace h := ipos c1673 h
    cases h
    refine W.widen (k := cells + 4) (n := slots + 24) (by omega) (by omega) ?_
    exact kk H locs ls (lw_sub hl (by simp [LwL])) X
  · replace h := ineg c1673 h
    refine lv_iconst (v := 0) C.1 C.2.1 dL_law__1676 (by decide) ?_
    cases h
theorem lwc_27 (C : Cx p s m args meth c cL_law_ (some .boolean) 7 "PaneStreetLaw") (G : Gf E s) (hT : l.stackTraces = false) {x1 x2 x3 x4 x5 : Int32} (h : lw_27 x1 x2 x3 x4 x5 σ = some (true, σ')) (X : Hx E σ s H locs) (hl : lv_has ls 7 (LwL E b i)) (hX : va_X b L xs s s.heap) (hb : b < s.heap.size) (hbA : ¬ Fr E b) (q1 : LwX L xs (i + 1) x1) (q2 : LwX L xs (i + 2) x2) (q3 : LwX L xs (i + 3) x3) (q4 : LwX L xs (i + 4) x4) (q5 : LwX L xs (i + 5) x5) (hcc : cells ≤ 4000) (hss : slots ≤ 100000)
    (kk : ∀ (H1 : Heap) (locs1 : List Loc) (ls1 : Array Slot), lv_has ls1 7 (LwL E b i) → Hx E σ' s H1 locs1 → W p l e room_1 s m args below meth c H1 locs1 (cells + 4) (slots + 24) Q (F0 m 2792 ls1 [])) : W p l e room_1 s m args below meth c H locs cells slots Q (F0 m 1678 ls []) := by
  unfold lw_27 at h
  unfold LwL at hl
  refine lv_aload_n C.1 C.2.1 dL_law__1678 rfl (lv_at hl 1 rfl) ?_
  refine lv_aload_n C.1 C.2.1 dL_law__1679 rfl (lv_at hl 0 rfl) ?_
  refine lv_iload C.1 C.2.1 dL_law__1680 (lv_at hl 4 rfl) ?_
  refine lv_iconst (v := 1) C.1 C.2.1 dL_law__1682 (by decide) ?_
  refine lv_iadd C.1 C.2.1 dL_law__1683 ?_
  refine xld C X hX hb hbA q1 dL_law__1684 ?_
  refine lv_aload_n C.1 C.2.1 dL_law__1685 rfl (lv_at hl 0 rfl) ?_
  refine lv_iload C.1 C.2.1 dL_law__1686 (lv_at hl 4 rfl) ?_
  refine lv_iconst (v := 2) C.1 C.2.1 dL_law__1688 (by decide) ?_
  refine lv_iadd C.1 C.2.1 dL_law__1689 ?_
  refine xld C X hX hb hbA q2 dL_law__1690 ?_
  refine lv_aload_n C.1 C.2.1 dL_law__1691 rfl (lv_at hl 3 rfl) ?_
  obtain ⟨r1692, σ1692, e1692, h⟩ := bnd2 h
  refine afW (r0 := r1692) (σ' := σ1692) X (runSW_ (n := 4) C G X k_1441 k_103 (by decide +kernel) k_1440 k_1439 (c_L_closed l E hT e1692) rfl hl.1 rfl (Nat.le_of_ble_eq_true rfl) ⟨Nat.le_of_ble_eq_true rfl, Nat.le_of_ble_eq_true rfl⟩ ⟨by show _ ≤ 601024; omega, by show _ ≤ 7293034; omega⟩ dL_law__1692) (fun H locs X => ?_)
  refine lv_istore (lv' := [(5, .int r1692), (0, .ref b), (1, .ref (gB E + 0)), (2, .ref (gB E + 399)), (3, .ref (gB E + 411)), (4, .int i)]) C.1 C.2.1 dL_law__1695 hl (by decide) rfl (fun ls hl => ?_)
  refine lv_aload_n C.1 C.2.1 dL_law__1697 rfl (lv_at hl 3 rfl) ?_
  refine lv_aload_n C.1 C.2.1 dL_law__1698 rfl (lv_at hl 1 rfl) ?_
  refine lv_iload C.1 C.2.1 dL_law__1699 (lv_at hl 5 rfl) ?_
  refine lv_iconst (v := 1) C.1 C.2.1 dL_law__1701 (by decide) ?_
  refine lv_iadd C.1 C.2.1 dL_law__1702 ?_
  refine xld C X hX hb hbA q1 dL_law__1703 ?_
  refine lv_aload_n C.1 C.2.1 dL_law__1704 rfl (lv_at hl 1 rfl) ?_
  refine lv_iload C.1 C.2.1 dL_law__1705 (lv_at hl 5 rfl) ?_
  refine lv_iconst (v := 2) C.1 C.2.1 dL_law__1707 (by decide) ?_
  refine lv_iadd C.1 C.2.1 dL_law__1708 ?_
  refine xld C X hX hb hbA q2 dL_law__1709 ?_
  obtain ⟨r1710, σ1710, e1710, h⟩ := bnd2 h
  refine afI (r0 := r1710) (σ' := σ1710) X (runV C G X q_X12_closed k_2124 k_2125 k_2123 (rcX12 G X kd_399) (c_X12_closed l E e1710) rfl hl.1 rfl (Nat.le_of_ble_eq_true rfl) ⟨Nat.le_of_ble_eq_true rfl, Nat.le_of_ble_eq_true rfl⟩ ⟨by show _ ≤ 601024; omega, by show _ ≤ 7293034; omega⟩ dL_law__1710) (fun H locs X => ?_)
  refine lv_istore (lv' := [(6, .int r1710), (5, .int r1692), (0, .ref b), (1, .ref (gB E + 0)), (2, .ref (gB E + 399)), (3, .ref (gB E + 411)), (4, .int i)]) C.1 C.2.1 dL_law__1713 hl (by decide) rfl (fun ls hl => ?_)
  refine lv_aload_n C.1 C.2.1 dL_law__1715 rfl (lv_at hl 4 rfl) ?_
  obtain ⟨r1716, e1716, h⟩ := bnd h
  refine afI X (runV C G X q_X12_thrown k_1722 k_1723 k_1721 (rcX12 G X kd_399) (c_X12_thrown l E e1716) rfl hl.1 rfl (Nat.le_of_ble_eq_true rfl) ⟨Nat.le_of_ble_eq_true rfl, Nat.le_of_ble_eq_true rfl⟩ ⟨by show _ ≤ 601024; omega, by show _ ≤ 7293034; omega⟩ dL_law__1716) (fun H locs X => ?_)
  refine lv_iload C.1 C.2.1 dL_law__1719 (lv_at hl 1 rfl) ?_
  refine lv_icmp_eq (tgt := 1726) C.1 C.2.1 dL_law__1721 (by decide) (fun c1721 => ?_) (fun c1721 => ?_)
  · replace h := ipos c1721 h
    refine lv_iload C.1 C.2.1 dL_law__1726 (lv_at hl 1 rfl) ?_
    refine lv_if_ne (tgt := 1743) C.1 C.2.1 dL_law__1728 (by decide) (fun c1728 => ?_) (fun c1728 => ?_)
    · replace h := ineg c1728 h
      refine lv_goto (tgt := 2792) C.1 C.2.1 dL_law__1743 (by decide) ?_
      cases h
      refine W.widen (k := cells + 4) (n := slots + 24) (by omega) (by omega) ?_
      exact kk H locs ls (lw_sub hl (by simp [LwL])) X
    · replace h := ipos c1728 h
      refine lv_aload_n C.1 C.2.1 dL_law__1731 rfl (lv_at hl 5 rfl) ?_
      refine lv_iconst (v := 0) C.1 C.2.1 dL_law__1732 (by decide) ?_
      refine ald_o C G X (k := 411) kd411 in411 dL_law__1733 ?_
      refine lv_iload C.1 C.2.1 dL_law__1734 (lv_at hl 0 rfl) ?_
      refine lv_i2l C.1 C.2.1 dL_law__1736 rfl ?_
      refine W.lcmp C.1 C.2.1 dL_law__1737 ?_
      refine lv_if_eq (tgt := 1743) C.1 C.2.1 dL_law__1738 (by decide) (fun c1738 => ?_) (fun c1738 => ?_)
      · replace h := ipos c1738 h
        refine lv_goto (tgt := 2792) C.1 C.2.1 dL_law__1743 (by decide) ?_
        cases h
        refine W.widen (k := cells + 4) (n := slots + 24) (by omega) (by omega) ?_
        exact kk H locs ls (lw_sub hl (by simp [LwL])) X
      · replace h := ineg c1738 h
        refine lv_iconst (v := 0) C.1 C.2.1 dL_law__1741 (by decide) ?_
        cases h
  · replace h := ineg c1721 h
    refine lv_iconst (v := 0) C.1 C.2.1 dL_law__1724 (by decide) ?_
    cases h
theorem lwc_28 (C : Cx p s m args meth c cL_law_ (some .boolean) 7 "PaneStreetLaw") (G : Gf E s) (hT : l.stackTraces = false) {x1 x2 x3 x4 x5 : Int32} (h : lw_28 x1 x2 x3 x4 x5 σ = some (true, σ')) (X : Hx E σ s H locs) (hl : lv_has ls 7 (LwL E b i)) (hX : va_X b L xs s s.heap) (hb : b < s.heap.size) (hbA : ¬ Fr E b) (q1 : LwX L xs (i + 1) x1) (q2 : LwX L xs (i + 2) x2) (q3 : LwX L xs (i + 3) x3) (q4 : LwX L xs (i + 4) x4) (q5 : LwX L xs (i + 5) x5) (hcc : cells ≤ 4000) (hss : slots ≤ 100000)
    (kk : ∀ (H1 : Heap) (locs1 : List Loc) (ls1 : Array Slot), lv_has ls1 7 (LwL E b i) → Hx E σ' s H1 locs1 → W p l e room_1 s m args below meth c H1 locs1 (cells + 4) (slots + 24) Q (F0 m 2792 ls1 [])) : W p l e room_1 s m args below meth c H locs cells slots Q (F0 m 1746 ls []) := by
  unfold lw_28 at h
  unfold LwL at hl
  refine lv_aload_n C.1 C.2.1 dL_law__1746 rfl (lv_at hl 1 rfl) ?_
  obtain ⟨r1747, σ1747, e1747, h⟩ := bnd2 h
  refine afI (r0 := r1747) (σ' := σ1747) X (runV C G X q_X11_madeUp k_669 k_670 k_668 (rcX11 G X kd_0) (c_X11_madeUp l E e1747) rfl hl.1 rfl (Nat.le_of_ble_eq_true rfl) ⟨Nat.le_of_ble_eq_true rfl, Nat.le_of_ble_eq_true rfl⟩ ⟨by show _ ≤ 601024; omega, by show _ ≤ 7293034; omega⟩ dL_law__1747) (fun H locs X => ?_)
  refine lv_aload_n C.1 C.2.1 dL_law__1750 rfl (lv_at hl 2 rfl) ?_
  obtain ⟨r1751, σ1751, e1751, h⟩ := bnd2 h
  refine afI (r0 := r1751) (σ' := σ1751) X (runV C G X q_X12_madeUp k_2132 k_2133 k_2131 (rcX12 G X kd_399) (c_X12_madeUp l E e1751) rfl hl.1 rfl (Nat.le_of_ble_eq_true rfl) ⟨Nat.le_of_ble_eq_true rfl, Nat.le_of_ble_eq_true rfl⟩ ⟨by show _ ≤ 601024; omega, by show _ ≤ 7293034; omega⟩ dL_law__1751) (fun H locs X => ?_)
  refine lv_icmp_eq (tgt := 2792) C.1 C.2.1 dL_law__1754 (by decide) (fun c1754 => ?_) (fun c1754 => ?_)
  · replace h := ipos c1754 h
    cases h
    refine W.widen (k := cells + 4) (n := slots + 24) (by omega) (by omega) ?_
    exact kk H locs ls (lw_sub hl (by simp [LwL])) X
  · replace h := ineg c1754 h
    refine lv_iconst (v := 0) C.1 C.2.1 dL_law__1757 (by decide) ?_
    cases h
theorem lwc_29 (C : Cx p s m args meth c cL_law_ (some .boolean) 7 "PaneStreetLaw") (G : Gf E s) (hT : l.stackTraces = false) {x1 x2 x3 x4 x5 : Int32} (h : lw_29 x1 x2 x3 x4 x5 σ = some (true, σ')) (X : Hx E σ s H locs) (hl : lv_has ls 7 (LwL E b i)) (hX : va_X b L xs s s.heap) (hb : b < s.heap.size) (hbA : ¬ Fr E b) (q1 : LwX L xs (i + 1) x1) (q2 : LwX L xs (i + 2) x2) (q3 : LwX L xs (i + 3) x3) (q4 : LwX L xs (i + 4) x4) (q5 : LwX L xs (i + 5) x5) (hcc : cells ≤ 4000) (hss : slots ≤ 100000)
    (kk : ∀ (H1 : Heap) (locs1 : List Loc) (ls1 : Array Slot), lv_has ls1 7 (LwL E b i) → Hx E σ' s H1 locs1 → W p l e room_1 s m args below meth c H1 locs1 (cells + 4) (slots + 24) Q (F0 m 2792 ls1 [])) : W p l e room_1 s m args below meth c H locs cells slots Q (F0 m 1759 ls []) := by
  unfold lw_29 at h
  unfold LwL at hl
  refine lv_aload_n C.1 C.2.1 dL_law__1759 rfl (lv_at hl 1 rfl) ?_
  refine lv_aload_n C.1 C.2.1 dL_law__1760 rfl (lv_at hl 3 rfl) ?_
  obtain ⟨r1761, σ1761, e1761, h⟩ := bnd2 h
  refine afW (r0 := r1761) (σ' := σ1761) X (runSW_ (n := 2) C G X k_1456 k_103 (by decide +kernel) k_1455 k_1454 (c_L_whoLit l E hT e1761) rfl hl.1 rfl (Nat.le_of_ble_eq_true rfl) ⟨Nat.le_of_ble_eq_true rfl, Nat.le_of_ble_eq_true rfl⟩ ⟨by show _ ≤ 601024; omega, by show _ ≤ 7293034; omega⟩ dL_law__1761) (fun H locs X => ?_)
  refine lv_istore (lv' := [(5, .int r1761), (0, .ref b), (1, .ref (gB E + 0)), (2, .ref (gB E + 399)), (3, .ref (gB E + 411)), (4, .int i)]) C.1 C.2.1 dL_law__1764 hl (by decide) rfl (fun ls hl => ?_)
  refine lv_aload_n C.1 C.2.1 dL_law__1766 rfl (lv_at hl 3 rfl) ?_
  obtain ⟨r1767, σ1767, e1767, h⟩ := bnd2 h
  refine afI (r0 := r1767) (σ' := σ1767) X (runV C G X q_X12_whoLit k_2140 k_2141 k_2139 (rcX12 G X kd_399) (c_X12_whoLit l E e1767) rfl hl.1 rfl (Nat.le_of_ble_eq_true rfl) ⟨Nat.le_of_ble_eq_true rfl, Nat.le_of_ble_eq_true rfl⟩ ⟨by show _ ≤ 601024; omega, by show _ ≤ 7293034; omega⟩ dL_law__1767) (fun H locs X => ?_)
  refine lv_istore (lv' := [(6, .int r1767), (5, .int r1761), (0, .ref b), (1, .ref (gB E + 0)), (2, .ref (gB E + 399)), (3, .ref (gB E + 411)), (4, .int i)]) C.1 C.2.1 dL_law__1770 hl (by decide) rfl (fun ls hl => ?_)
  refine lv_aload_n C.1 C.2.1 dL_law__1772 rfl (lv_at hl 4 rfl) ?_
  obtain ⟨r1773, e1773, h⟩ := bnd h
  refine afI X (runV C G X q_X12_thrown k_1722 k_1723 k_1721 (rcX12 G X kd_399) (c_X12_thrown l E e1773) rfl hl.1 rfl (Nat.le_of_ble_eq_true rfl) ⟨Nat.le_of_ble_eq_true rfl, Nat.le_of_ble_eq_true rfl⟩ ⟨by show _ ≤ 601024; omega, by show _ ≤ 7293034; omega⟩ dL_law__1773) (fun H locs X => ?_)
  refine lv_iload C.1 C.2.1 dL_law__1776 (lv_at hl 1 rfl) ?_
  refine lv_icmp_eq (tgt := 1783) C.1 C.2.1 dL_law__1778 (by decide) (fun c1778 => ?_) (fun c1778 => ?_)
  · replace h := ipos c1778 h
    refine lv_iload C.1 C.2.1 dL_law__1783 (lv_at hl 1 rfl) ?_
    refine lv_if_ne (tgt := 1800) C.1 C.2.1 dL_law__1785 (by decide) (fun c1785 => ?_) (fun c1785 => ?_)
    · replace h := ineg c1785 h
      refine lv_goto (tgt := 2792) C.1 C.2.1 dL_law__1800 (by decide) ?_
      cases h
      refine W.widen (k := cells + 4) (n := slots + 24) (by omega) (by omega) ?_
      exact kk H locs ls (lw_sub hl (by simp [LwL])) X
    · replace h := ipos c1785 h
      refine lv_aload_n C.1 C.2.1 dL_law__1788 rfl (lv_at hl 5 rfl) ?_
      refine lv_iconst (v := 0) C.1 C.2.1 dL_law__1789 (by decide) ?_
      refine ald_o C G X (k := 411) kd411 in411 dL_law__1790 ?_
      refine lv_iload C.1 C.2.1 dL_law__1791 (lv_at hl 0 rfl) ?_
      refine lv_i2l C.1 C.2.1 dL_law__1793 rfl ?_
      refine W.lcmp C.1 C.2.1 dL_law__1794 ?_
      refine lv_if_eq (tgt := 1800) C.1 C.2.1 dL_law__1795 (by decide) (fun c1795 => ?_) (fun c1795 => ?_)
      · replace h := ipos c1795 h
        refine lv_goto (tgt := 2792) C.1 C.2.1 dL_law__1800 (by decide) ?_
        cases h
        refine W.widen (k := cells + 4) (n := slots + 24) (by omega) (by omega) ?_
        exact kk H locs ls (lw_sub hl (by simp [LwL])) X
      · replace h := ineg c1795 h
        refine lv_iconst (v := 0) C.1 C.2.1 dL_law__1798 (by decide) ?_
        cases h
  · replace h := ineg c1778 h
    refine lv_iconst (v := 0) C.1 C.2.1 dL_law__1781 (by decide) ?_
    cases h
theorem lwc_30 (C : Cx p s m args meth c cL_law_ (some .boolean) 7 "PaneStreetLaw") (G : Gf E s) (hT : l.stackTraces = false) {x1 x2 x3 x4 x5 : Int32} (h : lw_30 x1 x2 x3 x4 x5 σ = some (true, σ')) (X : Hx E σ s H locs) (hl : lv_has ls 7 (LwL E b i)) (hX : va_X b L xs s s.heap) (hb : b < s.heap.size) (hbA : ¬ Fr E b) (q1 : LwX L xs (i + 1) x1) (q2 : LwX L xs (i + 2) x2) (q3 : LwX L xs (i + 3) x3) (q4 : LwX L xs (i + 4) x4) (q5 : LwX L xs (i + 5) x5) (hcc : cells ≤ 4000) (hss : slots ≤ 100000)
    (kk : ∀ (H1 : Heap) (locs1 : List Loc) (ls1 : Array Slot), lv_has ls1 7 (LwL E b i) → Hx E σ' s H1 locs1 → W p l e room_1 s m args below meth c H1 locs1 (cells + 4) (slots + 24) Q (F0 m 2792 ls1 [])) : W p l e room_1 s m args below meth c H locs cells slots Q (F0 m 1803 ls []) := by
  unfold lw_30 at h
  unfold LwL at hl
  refine lv_aload_n C.1 C.2.1 dL_law__1803 rfl (lv_at hl 1 rfl) ?_
  refine lv_aload_n C.1 C.2.1 dL_law__1804 rfl (lv_at hl 3 rfl) ?_
  obtain ⟨r1805, σ1805, e1805, h⟩ := bnd2 h
  refine afW (r0 := r1805) (σ' := σ1805) X (runSW_ (n := 2) C G X k_1483 k_103 (by decide +kernel) k_1482 k_1481 (c_L_ask l E hT e1805) rfl hl.1 rfl (Nat.le_of_ble_eq_true rfl) ⟨Nat.le_of_ble_eq_true rfl, Nat.le_of_ble_eq_true rfl⟩ ⟨by show _ ≤ 601024; omega, by show _ ≤ 7293034; omega⟩ dL_law__1805) (fun H locs X => ?_)
  refine lv_istore (lv' := [(5, .int r1805), (0, .ref b), (1, .ref (gB E + 0)), (2, .ref (gB E + 399)), (3, .ref (gB E + 411)), (4, .int i)]) C.1 C.2.1 dL_law__1808 hl (by decide) rfl (fun ls hl => ?_)
  refine lv_aload_n C.1 C.2.1 dL_law__1810 rfl (lv_at hl 3 rfl) ?_
  obtain ⟨r1811, σ1811, e1811, h⟩ := bnd2 h
  refine afI (r0 := r1811) (σ' := σ1811) X (runV C G X q_X12_ask k_2152 k_2153 k_2151 (rcX12 G X kd_399) (c_X12_ask l E e1811) rfl hl.1 rfl (Nat.le_of_ble_eq_true rfl) ⟨Nat.le_of_ble_eq_true rfl, Nat.le_of_ble_eq_true rfl⟩ ⟨by show _ ≤ 601024; omega, by show _ ≤ 7293034; omega⟩ dL_law__1811) (fun H locs X => ?_)
  refine lv_istore (lv' := [(6, .int r1811), (5, .int r1805), (0, .ref b), (1, .ref (gB E + 0)), (2, .ref (gB E + 399)), (3, .ref (gB E + 411)), (4, .int i)]) C.1 C.2.1 dL_law__1814 hl (by decide) rfl (fun ls hl => ?_)
  refine lv_aload_n C.1 C.2.1 dL_law__1816 rfl (lv_at hl 4 rfl) ?_
  obtain ⟨r1817, e1817, h⟩ := bnd h
  refine afI X (runV C G X q_X12_thrown k_1722 k_1723 k_1721 (rcX12 G X kd_399) (c_X12_thrown l E e1817) rfl hl.1 rfl (Nat.le_of_ble_eq_true rfl) ⟨Nat.le_of_ble_eq_true rfl, Nat.le_of_ble_eq_true rfl⟩ ⟨by show _ ≤ 601024; omega, by show _ ≤ 7293034; omega⟩ dL_law__1817) (fun H locs X => ?_)
  refine lv_iload C.1 C.2.1 dL_law__1820 (lv_at hl 1 rfl) ?_
  refine lv_icmp_eq (tgt := 1827) C.1 C.2.1 dL_law__1822 (by decide) (fun c1822 => ?_) (fun c1822 => ?_)
  · replace h := ipos c1822 h
    refine lv_iload C.1 C.2.1 dL_law__1827 (lv_at hl 1 rfl) ?_
    refine lv_if_ne (tgt := 1844) C.1 C.2.1 dL_law__1829 (by decide) (fun c1829 => ?_) (fun c1829 => ?_)
    · replace h := ineg c1829 h
      refine lv_goto (tgt := 2792) C.1 C.2.1 dL_law__1844 (by decide) ?_
      cases h
      refine W.widen (k := cells + 4) (n := slots + 24) (by omega) (by omega) ?_
      exact kk H locs ls (lw_sub hl (by simp [LwL])) X
    · replace h := ipos c1829 h
      refine lv_aload_n C.1 C.2.1 dL_law__1832 rfl (lv_at hl 5 rfl) ?_
      refine lv_iconst (v := 0) C.1 C.2.1 dL_law__1833 (by decide) ?_
      refine ald_o C G X (k := 411) kd411 in411 dL_law__1834 ?_
      refine lv_iload C.1 C.2.1 dL_law__1835 (lv_at hl 0 rfl) ?_
      refine lv_i2l C.1 C.2.1 dL_law__1837 rfl ?_
      refine W.lcmp C.1 C.2.1 dL_law__1838 ?_
      refine lv_if_eq (tgt := 1844) C.1 C.2.1 dL_law__1839 (by decide) (fun c1839 => ?_) (fun c1839 => ?_)
      · replace h := ipos c1839 h
        refine lv_goto (tgt := 2792) C.1 C.2.1 dL_law__1844 (by decide) ?_
        cases h
        refine W.widen (k := cells + 4) (n := slots + 24) (by omega) (by omega) ?_
        exact kk H locs ls (lw_sub hl (by simp [LwL])) X
      · replace h := ineg c1839 h
        refine lv_iconst (v := 0) C.1 C.2.1 dL_law__1842 (by decide) ?_
        cases h
  · replace h := ineg c1822 h
    refine lv_iconst (v := 0) C.1 C.2.1 dL_law__1825 (by decide) ?_
    cases h
theorem lwc_31 (C : Cx p s m args meth c cL_law_ (some .boolean) 7 "PaneStreetLaw") (G : Gf E s) (hT : l.stackTraces = false) {x1 x2 x3 x4 x5 : Int32} (h : lw_31 x1 x2 x3 x4 x5 σ = some (true, σ')) (X : Hx E σ s H locs) (hl : lv_has ls 7 (LwL E b i)) (hX : va_X b L xs s s.heap) (hb : b < s.heap.size) (hbA : ¬ Fr E b) (q1 : LwX L xs (i + 1) x1) (q2 : LwX L xs (i + 2) x2) (q3 : LwX L xs (i + 3) x3) (q4 : LwX L xs (i + 4) x4) (q5 : LwX L xs (i + 5) x5) (hcc : cells ≤ 4000) (hss : slots ≤ 100000)
    (kk : ∀ (H1 : Heap) (locs1 : List Loc) (ls1 : Array Slot), lv_has ls1 7 (LwL E b i) → Hx E σ' s H1 locs1 → W p l e room_1 s m args below meth c H1 locs1 (cells + 4) (slots + 24) Q (F0 m 2792 ls1 [])) : W p l e room_1 s m args below meth c H locs cells slots Q (F0 m 1847 ls []) := by
  unfold lw_31 at h
  unfold LwL at hl
  refine lv_aload_n C.1 C.2.1 dL_law__1847 rfl (lv_at hl 1 rfl) ?_
  refine lv_aload_n C.1 C.2.1 dL_law__1848 rfl (lv_at hl 0 rfl) ?_
  refine lv_iload C.1 C.2.1 dL_law__1849 (lv_at hl 4 rfl) ?_
  refine lv_iconst (v := 1) C.1 C.2.1 dL_law__1851 (by decide) ?_
  refine lv_iadd C.1 C.2.1 dL_law__1852 ?_
  refine xld C X hX hb hbA q1 dL_law__1853 ?_
  refine lv_aload_n C.1 C.2.1 dL_law__1854 rfl (lv_at hl 3 rfl) ?_
  obtain ⟨r1855, σ1855, e1855, h⟩ := bnd2 h
  refine afW (r0 := r1855) (σ' := σ1855) X (runSW_ (n := 3) C G X k_1500 k_103 (by decide +kernel) k_1499 k_1498 (c_L_ring l E hT e1855) rfl hl.1 rfl (Nat.le_of_ble_eq_true rfl) ⟨Nat.le_of_ble_eq_true rfl, Nat.le_of_ble_eq_true rfl⟩ ⟨by show _ ≤ 601024; omega, by show _ ≤ 7293034; omega⟩ dL_law__1855) (fun H locs X => ?_)
  refine lv_istore (lv' := [(5, .int r1855), (0, .ref b), (1, .ref (gB E + 0)), (2, .ref (gB E + 399)), (3, .ref (gB E + 411)), (4, .int i)]) C.1 C.2.1 dL_law__1858 hl (by decide) rfl (fun ls hl => ?_)
  refine lv_aload_n C.1 C.2.1 dL_law__1860 rfl (lv_at hl 3 rfl) ?_
  refine lv_aload_n C.1 C.2.1 dL_law__1861 rfl (lv_at hl 1 rfl) ?_
  refine lv_iload C.1 C.2.1 dL_law__1862 (lv_at hl 5 rfl) ?_
  refine lv_iconst (v := 1) C.1 C.2.1 dL_law__1864 (by decide) ?_
  refine lv_iadd C.1 C.2.1 dL_law__1865 ?_
  refine xld C X hX hb hbA q1 dL_law__1866 ?_
  obtain ⟨r1867, σ1867, e1867, h⟩ := bnd2 h
  refine afI (r0 := r1867) (σ' := σ1867) X (runV C G X q_X12_ring k_2160 k_2161 k_2159 (rcX12 G X kd_399) (c_X12_ring l E e1867) rfl hl.1 rfl (Nat.le_of_ble_eq_true rfl) ⟨Nat.le_of_ble_eq_true rfl, Nat.le_of_ble_eq_true rfl⟩ ⟨by show _ ≤ 601024; omega, by show _ ≤ 7293034; omega⟩ dL_law__1867) (fun H locs X => ?_)
  refine lv_istore (lv' := [(6, .int r1867), (5, .int r1855), (0, .ref b), (1, .ref (gB E + 0)), (2, .ref (gB E + 399)), (3, .ref (gB E + 411)), (4, .int i)]) C.1 C.2.1 dL_law__1870 hl (by decide) rfl (fun ls hl => ?_)
  refine lv_aload_n C.1 C.2.1 dL_law__1872 rfl (lv_at hl 4 rfl) ?_
  obtain ⟨r1873, e1873, h⟩ := bnd h
  refine afI X (runV C G X q_X12_thrown k_1722 k_1723 k_1721 (rcX12 G X kd_399) (c_X12_thrown l E e1873) rfl hl.1 rfl (Nat.le_of_ble_eq_true rfl) ⟨Nat.le_of_ble_eq_true rfl, Nat.le_of_ble_eq_true rfl⟩ ⟨by show _ ≤ 601024; omega, by show _ ≤ 7293034; omega⟩ dL_law__1873) (fun H locs X => ?_)
  refine lv_iload C.1 C.2.1 dL_law__1876 (lv_at hl 1 rfl) ?_
  refine lv_icmp_eq (tgt := 1883) C.1 C.2.1 dL_law__1878 (by decide) (fun c1878 => ?_) (fun c1878 => ?_)
  · replace h := ipos c1878 h
    refine lv_iload C.1 C.2.1 dL_law__1883 (lv_at hl 1 rfl) ?_
    refine lv_if_ne (tgt := 1907) C.1 C.2.1 dL_law__1885 (by decide) (fun c1885 => ?_) (fun c1885 => ?_)
    · replace h := ineg c1885 h
      refine lv_goto (tgt := 2792) C.1 C.2.1 dL_law__1907 (by decide) ?_
      cases h
      refine W.widen (k := cells + 4) (n := slots + 24) (by omega) (by omega) ?_
      exact kk H locs ls (lw_sub hl (by simp [LwL])) X
    · replace h := ipos c1885 h
      refine lv_aload_n C.1 C.2.1 dL_law__1888 rfl (lv_at hl 5 rfl) ?_
      refine lv_iconst (v := 0) C.1 C.2.1 dL_law__1889 (by decide) ?_
      refine ald_o C G X (k := 411) kd411 in411 dL_law__1890 ?_
      refine lv_iload C.1 C.2.1 dL_law__1891 (lv_at hl 0 rfl) ?_
      refine lv_if_eq (tgt := 1900) C.1 C.2.1 dL_law__1893 (by decide) (fun c1893 => ?_) (fun c1893 => ?_)
      · replace h := ipos c1893 h
        refine lv_lconst (v := 0) C.1 C.2.1 dL_law__1900 (by decide) ?_
        refine W.lcmp C.1 C.2.1 dL_law__1901 ?_
        refine lv_if_eq (tgt := 1907) C.1 C.2.1 dL_law__1902 (by decide) (fun c1902 => ?_) (fun c1902 => ?_)
        · replace h := ipos c1902 h
          refine lv_goto (tgt := 2792) C.1 C.2.1 dL_law__1907 (by decide) ?_
          cases h
          refine W.widen (k := cells + 4) (n := slots + 24) (by omega) (by omega) ?_
          exact kk H locs ls (lw_sub hl (by simp [LwL])) X
        · replace h := ineg c1902 h
          refine lv_iconst (v := 0) C.1 C.2.1 dL_law__1905 (by decide) ?_
          cases h
      · replace h := ineg c1893 h
        refine lv_lconst (v := 1) C.1 C.2.1 dL_law__1896 (by decide) ?_
        refine lv_goto (tgt := 1901) C.1 C.2.1 dL_law__1897 (by decide) ?_
        refine W.lcmp C.1 C.2.1 dL_law__1901 ?_
        refine lv_if_eq (tgt := 1907) C.1 C.2.1 dL_law__1902 (by decide) (fun c1902 => ?_) (fun c1902 => ?_)
        · replace h := ipos c1902 h
          refine lv_goto (tgt := 2792) C.1 C.2.1 dL_law__1907 (by decide) ?_
          cases h
          refine W.widen (k := cells + 4) (n := slots + 24) (by omega) (by omega) ?_
          exact kk H locs ls (lw_sub hl (by simp [LwL])) X
        · replace h := ineg c1902 h
          refine lv_iconst (v := 0) C.1 C.2.1 dL_law__1905 (by decide) ?_
          cases h
  · replace h := ineg c1878 h
    refine lv_iconst (v := 0) C.1 C.2.1 dL_law__1881 (by decide) ?_
    cases h
theorem lwc_32 (C : Cx p s m args meth c cL_law_ (some .boolean) 7 "PaneStreetLaw") (G : Gf E s) (hT : l.stackTraces = false) {x1 x2 x3 x4 x5 : Int32} (h : lw_32 x1 x2 x3 x4 x5 σ = some (true, σ')) (X : Hx E σ s H locs) (hl : lv_has ls 7 (LwL E b i)) (hX : va_X b L xs s s.heap) (hb : b < s.heap.size) (hbA : ¬ Fr E b) (q1 : LwX L xs (i + 1) x1) (q2 : LwX L xs (i + 2) x2) (q3 : LwX L xs (i + 3) x3) (q4 : LwX L xs (i + 4) x4) (q5 : LwX L xs (i + 5) x5) (hcc : cells ≤ 4000) (hss : slots ≤ 100000)
    (kk : ∀ (H1 : Heap) (locs1 : List Loc) (ls1 : Array Slot), lv_has ls1 7 (LwL E b i) → Hx E σ' s H1 locs1 → W p l e room_1 s m args below meth c H1 locs1 (cells + 4) (slots + 24) Q (F0 m 2792 ls1 [])) : W p l e room_1 s m args below meth c H locs cells slots Q (F0 m 1910 ls []) := by
  unfold lw_32 at h
  unfold LwL at hl
  refine lv_aload_n C.1 C.2.1 dL_law__1910 rfl (lv_at hl 1 rfl) ?_
  obtain ⟨r1911, e1911, h⟩ := bnd h
  refine afI X (runV C G X q_X11_sides k_681 k_682 k_680 (rcX11 G X kd_0) (c_X11_sides l E e1911) rfl hl.1 rfl (Nat.le_of_ble_eq_true rfl) ⟨Nat.le_of_ble_eq_true rfl, Nat.le_of_ble_eq_true rfl⟩ ⟨by show _ ≤ 601024; omega, by show _ ≤ 7293034; omega⟩ dL_law__1911) (fun H locs X => ?_)
  refine lv_aload_n C.1 C.2.1 dL_law__1914 rfl (lv_at hl 2 rfl) ?_
  obtain ⟨r1915, σ1915, e1915, h⟩ := bnd2 h
  refine afI (r0 := r1915) (σ' := σ1915) X (runV C G X q_X12_sides k_2168 k_2169 k_2167 (rcX12 G X kd_399) (c_X12_sides l E e1915) rfl hl.1 rfl (Nat.le_of_ble_eq_true rfl) ⟨Nat.le_of_ble_eq_true rfl, Nat.le_of_ble_eq_true rfl⟩ ⟨by show _ ≤ 601024; omega, by show _ ≤ 7293034; omega⟩ dL_law__1915) (fun H locs X => ?_)
  refine lv_icmp_eq (tgt := 2792) C.1 C.2.1 dL_law__1918 (by decide) (fun c1918 => ?_) (fun c1918 => ?_)
  · replace h := ipos c1918 h
    cases h
    refine W.widen (k := cells + 4) (n := slots + 24) (by omega) (by omega) ?_
    exact kk H locs ls (lw_sub hl (by simp [LwL])) X
  · replace h := ineg c1918 h
    refine lv_iconst (v := 0) C.1 C.2.1 dL_law__1921 (by decide) ?_
    cases h
theorem lwc_33 (C : Cx p s m args meth c cL_law_ (some .boolean) 7 "PaneStreetLaw") (G : Gf E s) (hT : l.stackTraces = false) {x1 x2 x3 x4 x5 : Int32} (h : lw_33 x1 x2 x3 x4 x5 σ = some (true, σ')) (X : Hx E σ s H locs) (hl : lv_has ls 7 (LwL E b i)) (hX : va_X b L xs s s.heap) (hb : b < s.heap.size) (hbA : ¬ Fr E b) (q1 : LwX L xs (i + 1) x1) (q2 : LwX L xs (i + 2) x2) (q3 : LwX L xs (i + 3) x3) (q4 : LwX L xs (i + 4) x4) (q5 : LwX L xs (i + 5) x5) (hcc : cells ≤ 4000) (hss : slots ≤ 100000)
    (kk : ∀ (H1 : Heap) (locs1 : List Loc) (ls1 : Array Slot), lv_has ls1 7 (LwL E b i) → Hx E σ' s H1 locs1 → W p l e room_1 s m args below meth c H1 locs1 (cells + 4) (slots + 24) Q (F0 m 2792 ls1 [])) : W p l e room_1 s m args below meth c H locs cells slots Q (F0 m 1923 ls []) := by
  unfold lw_33 at h
  unfold LwL at hl
  refine lv_aload_n C.1 C.2.1 dL_law__1923 rfl (lv_at hl 1 rfl) ?_
  refine lv_aload_n C.1 C.2.1 dL_law__1924 rfl (lv_at hl 0 rfl) ?_
  refine lv_iload C.1 C.2.1 dL_law__1925 (lv_at hl 4 rfl) ?_
  refine lv_iconst (v := 1) C.1 C.2.1 dL_law__1927 (by decide) ?_
  refine lv_iadd C.1 C.2.1 dL_law__1928 ?_
  refine xld C X hX hb hbA q1 dL_law__1929 ?_
  refine lv_aload_n C.1 C.2.1 dL_law__1930 rfl (lv_at hl 3 rfl) ?_
  obtain ⟨r1931, σ1931, e1931, h⟩ := bnd2 h
  refine afW (r0 := r1931) (σ' := σ1931) X (runSW_ (n := 3) C G X k_1512 k_103 (by decide +kernel) k_1511 k_1510 (c_L_pairs l E hT e1931) rfl hl.1 rfl (Nat.le_of_ble_eq_true rfl) ⟨Nat.le_of_ble_eq_true rfl, Nat.le_of_ble_eq_true rfl⟩ ⟨by show _ ≤ 601024; omega, by show _ ≤ 7293034; omega⟩ dL_law__1931) (fun H locs X => ?_)
  refine lv_istore (lv' := [(5, .int r1931), (0, .ref b), (1, .ref (gB E + 0)), (2, .ref (gB E + 399)), (3, .ref (gB E + 411)), (4, .int i)]) C.1 C.2.1 dL_law__1934 hl (by decide) rfl (fun ls hl => ?_)
  refine lv_aload_n C.1 C.2.1 dL_law__1936 rfl (lv_at hl 3 rfl) ?_
  refine lv_aload_n C.1 C.2.1 dL_law__1937 rfl (lv_at hl 1 rfl) ?_
  refine lv_iload C.1 C.2.1 dL_law__1938 (lv_at hl 5 rfl) ?_
  refine lv_iconst (v := 1) C.1 C.2.1 dL_law__1940 (by decide) ?_
  refine lv_iadd C.1 C.2.1 dL_law__1941 ?_
  refine xld C X hX hb hbA q1 dL_law__1942 ?_
  obtain ⟨r1943, σ1943, e1943, h⟩ := bnd2 h
  refine afI (r0 := r1943) (σ' := σ1943) X (runV C G X q_X12_pairs k_2176 k_2177 k_2175 (rcX12 G X kd_399) (c_X12_pairs l E e1943) rfl hl.1 rfl (Nat.le_of_ble_eq_true rfl) ⟨Nat.le_of_ble_eq_true rfl, Nat.le_of_ble_eq_true rfl⟩ ⟨by show _ ≤ 601024; omega, by show _ ≤ 7293034; omega⟩ dL_law__1943) (fun H locs X => ?_)
  refine lv_istore (lv' := [(6, .int r1943), (5, .int r1931), (0, .ref b), (1, .ref (gB E + 0)), (2, .ref (gB E + 399)), (3, .ref (gB E + 411)), (4, .int i)]) C.1 C.2.1 dL_law__1946 hl (by decide) rfl (fun ls hl => ?_)
  refine lv_aload_n C.1 C.2.1 dL_law__1948 rfl (lv_at hl 4 rfl) ?_
  obtain ⟨r1949, e1949, h⟩ := bnd h
  refine afI X (runV C G X q_X12_thrown k_1722 k_1723 k_1721 (rcX12 G X kd_399) (c_X12_thrown l E e1949) rfl hl.1 rfl (Nat.le_of_ble_eq_true rfl) ⟨Nat.le_of_ble_eq_true rfl, Nat.le_of_ble_eq_true rfl⟩ ⟨by show _ ≤ 601024; omega, by show _ ≤ 7293034; omega⟩ dL_law__1949) (fun H locs X => ?_)
  refine lv_iload C.1 C.2.1 dL_law__1952 (lv_at hl 1 rfl) ?_
  refine lv_icmp_eq (tgt := 1959) C.1 C.2.1 dL_law__1954 (by decide) (fun c1954 => ?_) (fun c1954 => ?_)
  · replace h := ipos c1954 h
    refine lv_iload C.1 C.2.1 dL_law__1959 (lv_at hl 1 rfl) ?_
    refine lv_if_ne (tgt := 1976) C.1 C.2.1 dL_law__1961 (by decide) (fun c1961 => ?_) (fun c1961 => ?_)
    · replace h := ineg c1961 h
      refine lv_goto (tgt := 2792) C.1 C.2.1 dL_law__1976 (by decide) ?_
      cases h
      refine W.widen (k := cells + 4) (n := slots + 24) (by omega) (by omega) ?_
      exact kk H locs ls (lw_sub hl (by simp [LwL])) X
    · replace h := ipos c1961 h
      refine lv_aload_n C.1 C.2.1 dL_law__1964 rfl (lv_at hl 5 rfl) ?_
      refine lv_iconst (v := 0) C.1 C.2.1 dL_law__1965 (by decide) ?_
      refine ald_o C G X (k := 411) kd411 in411 dL_law__1966 ?_
      refine lv_iload C.1 C.2.1 dL_law__1967 (lv_at hl 0 rfl) ?_
      refine lv_i2l C.1 C.2.1 dL_law__1969 rfl ?_
      refine W.lcmp C.1 C.2.1 dL_law__1970 ?_
      refine lv_if_eq (tgt := 1976) C.1 C.2.1 dL_law__1971 (by decide) (fun c1971 => ?_) (fun c1971 => ?_)
      · replace h := ipos c1971 h
        refine lv_goto (tgt := 2792) C.1 C.2.1 dL_law__1976 (by decide) ?_
        cases h
        refine W.widen (k := cells + 4) (n := slots + 24) (by omega) (by omega) ?_
        exact kk H locs ls (lw_sub hl (by simp [LwL])) X
      · replace h := ineg c1971 h
        refine lv_iconst (v := 0) C.1 C.2.1 dL_law__1974 (by decide) ?_
        cases h
  · replace h := ineg c1954 h
    refine lv_iconst (v := 0) C.1 C.2.1 dL_law__1957 (by decide) ?_
    cases h
theorem lwc_34 (C : Cx p s m args meth c cL_law_ (some .boolean) 7 "PaneStreetLaw") (G : Gf E s) (hT : l.stackTraces = false) {x1 x2 x3 x4 x5 : Int32} (h : lw_34 x1 x2 x3 x4 x5 σ = some (true, σ')) (X : Hx E σ s H locs) (hl : lv_has ls 7 (LwL E b i)) (hX : va_X b L xs s s.heap) (hb : b < s.heap.size) (hbA : ¬ Fr E b) (q1 : LwX L xs (i + 1) x1) (q2 : LwX L xs (i + 2) x2) (q3 : LwX L xs (i + 3) x3) (q4 : LwX L xs (i + 4) x4) (q5 : LwX L xs (i + 5) x5) (hcc : cells ≤ 4000) (hss : slots ≤ 100000)
    (kk : ∀ (H1 : Heap) (locs1 : List Loc) (ls1 : Array Slot), lv_has ls1 7 (LwL E b i) → Hx E σ' s H1 locs1 → W p l e room_1 s m args below meth c H1 locs1 (cells + 4) (slots + 24) Q (F0 m 2792 ls1 [])) : W p l e room_1 s m args below meth c H locs cells slots Q (F0 m 1979 ls []) := by
  unfold lw_34 at h
  unfold LwL at hl
  refine lv_aload_n C.1 C.2.1 dL_law__1979 rfl (lv_at hl 1 rfl) ?_
  refine lv_aload_n C.1 C.2.1 dL_law__1980 rfl (lv_at hl 3 rfl) ?_
  obtain ⟨r1981, σ1981, e1981, h⟩ := bnd2 h
  refine afW (r0 := r1981) (σ' := σ1981) X (runSW_ (n := 2) C G X k_1542 k_103 (by decide +kernel) k_1541 k_1540 (c_L_learnt l E hT e1981) rfl hl.1 rfl (Nat.le_of_ble_eq_true rfl) ⟨Nat.le_of_ble_eq_true rfl, Nat.le_of_ble_eq_true rfl⟩ ⟨by show _ ≤ 601024; omega, by show _ ≤ 7293034; omega⟩ dL_law__1981) (fun H locs X => ?_)
  refine lv_istore (lv' := [(5, .int r1981), (0, .ref b), (1, .ref (gB E + 0)), (2, .ref (gB E + 399)), (3, .ref (gB E + 411)), (4, .int i)]) C.1 C.2.1 dL_law__1984 hl (by decide) rfl (fun ls hl => ?_)
  refine lv_aload_n C.1 C.2.1 dL_law__1986 rfl (lv_at hl 3 rfl) ?_
  obtain ⟨r1987, σ1987, e1987, h⟩ := bnd2 h
  refine afI (r0 := r1987) (σ' := σ1987) X (runV C G X q_X12_learnt k_2191 k_2192 k_2190 (rcX12 G X kd_399) (c_X12_learnt l E e1987) rfl hl.1 rfl (Nat.le_of_ble_eq_true rfl) ⟨Nat.le_of_ble_eq_true rfl, Nat.le_of_ble_eq_true rfl⟩ ⟨by show _ ≤ 601024; omega, by show _ ≤ 7293034; omega⟩ dL_law__1987) (fun H locs X => ?_)
  refine lv_istore (lv' := [(6, .int r1987), (5, .int r1981), (0, .ref b), (1, .ref (gB E + 0)), (2, .ref (gB E + 399)), (3, .ref (gB E + 411)), (4, .int i)]) C.1 C.2.1 dL_law__1990 hl (by decide) rfl (fun ls hl => ?_)
  refine lv_aload_n C.1 C.2.1 dL_law__1992 rfl (lv_at hl 4 rfl) ?_
  obtain ⟨r1993, e1993, h⟩ := bnd h
  refine afI X (runV C G X q_X12_thrown k_1722 k_1723 k_1721 (rcX12 G X kd_399) (c_X12_thrown l E e1993) rfl hl.1 rfl (Nat.le_of_ble_eq_true rfl) ⟨Nat.le_of_ble_eq_true rfl, Nat.le_of_ble_eq_true rfl⟩ ⟨by show _ ≤ 601024; omega, by show _ ≤ 7293034; omega⟩ dL_law__1993) (fun H locs X => ?_)
  refine lv_iload C.1 C.2.1 dL_law__1996 (lv_at hl 1 rfl) ?_
  refine lv_icmp_eq (tgt := 2003) C.1 C.2.1 dL_law__1998 (by decide) (fun c1998 => ?_) (fun c1998 => ?_)
  · replace h := ipos c1998 h
    refine lv_iload C.1 C.2.1 dL_law__2003 (lv_at hl 1 rfl) ?_
    refine lv_if_ne (tgt := 2020) C.1 C.2.1 dL_law__2005 (by decide) (fun c2005 => ?_) (fun c2005 => ?_)
    · replace h := ineg c2005 h
      refine lv_goto (tgt := 2792) C.1 C.2.1 dL_law__2020 (by decide) ?_
      cases h
      refine W.widen (k := cells + 4) (n := slots + 24) (by omega) (by omega) ?_
      exact kk H locs ls (lw_sub hl (by simp [LwL])) X
    · replace h := ipos c2005 h
      refine lv_aload_n C.1 C.2.1 dL_law__2008 rfl (lv_at hl 5 rfl) ?_
      refine lv_iconst (v := 0) C.1 C.2.1 dL_law__2009 (by decide) ?_
      refine ald_o C G X (k := 411) kd411 in411 dL_law__2010 ?_
      refine lv_iload C.1 C.2.1 dL_law__2011 (lv_at hl 0 rfl) ?_
      refine lv_i2l C.1 C.2.1 dL_law__2013 rfl ?_
      refine W.lcmp C.1 C.2.1 dL_law__2014 ?_
      refine lv_if_eq (tgt := 2020) C.1 C.2.1 dL_law__2015 (by decide) (fun c2015 => ?_) (fun c2015 => ?_)
      · replace h := ipos c2015 h
        refine lv_goto (tgt := 2792) C.1 C.2.1 dL_law__2020 (by decide) ?_
        cases h
        refine W.widen (k := cells + 4) (n := slots + 24) (by omega) (by omega) ?_
        exact kk H locs ls (lw_sub hl (by simp [LwL])) X
      · replace h := ineg c2015 h
        refine lv_iconst (v := 0) C.1 C.2.1 dL_law__2018 (by decide) ?_
        cases h
  · replace h := ineg c1998 h
    refine lv_iconst (v := 0) C.1 C.2.1 dL_law__2001 (by decide) ?_
    cases h
theorem lwc_35 (C : Cx p s m args meth c cL_law_ (some .boolean) 7 "PaneStreetLaw") (G : Gf E s) (hT : l.stackTraces = false) {x1 x2 x3 x4 x5 : Int32} (h : lw_35 x1 x2 x3 x4 x5 σ = some (true, σ')) (X : Hx E σ s H locs) (hl : lv_has ls 7 (LwL E b i)) (hX : va_X b L xs s s.heap) (hb : b < s.heap.size) (hbA : ¬ Fr E b) (q1 : LwX L xs (i + 1) x1) (q2 : LwX L xs (i + 2) x2) (q3 : LwX L xs (i + 3) x3) (q4 : LwX L xs (i + 4) x4) (q5 : LwX L xs (i + 5) x5) (hcc : cells ≤ 4000) (hss : slots ≤ 100000)
    (kk : ∀ (H1 : Heap) (locs1 : List Loc) (ls1 : Array Slot), lv_has ls1 7 (LwL E b i) → Hx E σ' s H1 locs1 → W p l e room_1 s m args below meth c H1 locs1 (cells + 4) (slots + 24) Q (F0 m 2792 ls1 [])) : W p l e room_1 s m args below meth c H locs cells slots Q (F0 m 2023 ls []) := by
  unfold lw_35 at h
  unfold LwL at hl
  refine lv_aload_n C.1 C.2.1 dL_law__2023 rfl (lv_at hl 1 rfl) ?_
  refine lv_aload_n C.1 C.2.1 dL_law__2024 rfl (lv_at hl 0 rfl) ?_
  refine lv_iload C.1 C.2.1 dL_law__2025 (lv_at hl 4 rfl) ?_
  refine lv_iconst (v := 1) C.1 C.2.1 dL_law__2027 (by decide) ?_
  refine lv_iadd C.1 C.2.1 dL_law__2028 ?_
  refine xld C X hX hb hbA q1 dL_law__2029 ?_
  refine lv_aload_n C.1 C.2.1 dL_law__2030 rfl (lv_at hl 0 rfl) ?_
  refine lv_iload C.1 C.2.1 dL_law__2031 (lv_at hl 4 rfl) ?_
  refine lv_iconst (v := 2) C.1 C.2.1 dL_law__2033 (by decide) ?_
  refine lv_iadd C.1 C.2.1 dL_law__2034 ?_
  refine xld C X hX hb hbA q2 dL_law__2035 ?_
  refine lv_aload_n C.1 C.2.1 dL_law__2036 rfl (lv_at hl 3 rfl) ?_
  obtain ⟨r2037, σ2037, e2037, h⟩ := bnd2 h
  refine afW (r0 := r2037) (σ' := σ2037) X (runSW_ (n := 4) C G X k_1559 k_103 (by decide +kernel) k_1558 k_1557 (c_L_share l E hT e2037) rfl hl.1 rfl (Nat.le_of_ble_eq_true rfl) ⟨Nat.le_of_ble_eq_true rfl, Nat.le_of_ble_eq_true rfl⟩ ⟨by show _ ≤ 601024; omega, by show _ ≤ 7293034; omega⟩ dL_law__2037) (fun H locs X => ?_)
  refine lv_istore (lv' := [(5, .int r2037), (0, .ref b), (1, .ref (gB E + 0)), (2, .ref (gB E + 399)), (3, .ref (gB E + 411)), (4, .int i)]) C.1 C.2.1 dL_law__2040 hl (by decide) rfl (fun ls hl => ?_)
  refine lv_aload_n C.1 C.2.1 dL_law__2042 rfl (lv_at hl 3 rfl) ?_
  refine lv_aload_n C.1 C.2.1 dL_law__2043 rfl (lv_at hl 1 rfl) ?_
  refine lv_iload C.1 C.2.1 dL_law__2044 (lv_at hl 5 rfl) ?_
  refine lv_iconst (v := 1) C.1 C.2.1 dL_law__2046 (by decide) ?_
  refine lv_iadd C.1 C.2.1 dL_law__2047 ?_
  refine xld C X hX hb hbA q1 dL_law__2048 ?_
  refine lv_aload_n C.1 C.2.1 dL_law__2049 rfl (lv_at hl 1 rfl) ?_
  refine lv_iload C.1 C.2.1 dL_law__2050 (lv_at hl 5 rfl) ?_
  refine lv_iconst (v := 2) C.1 C.2.1 dL_law__2052 (by decide) ?_
  refine lv_iadd C.1 C.2.1 dL_law__2053 ?_
  refine xld C X hX hb hbA q2 dL_law__2054 ?_
  obtain ⟨r2055, σ2055, e2055, h⟩ := bnd2 h
  refine afI (r0 := r2055) (σ' := σ2055) X (runV C G X q_X12_share k_2199 k_2200 k_2198 (rcX12 G X kd_399) (c_X12_share l E e2055) rfl hl.1 rfl (Nat.le_of_ble_eq_true rfl) ⟨Nat.le_of_ble_eq_true rfl, Nat.le_of_ble_eq_true rfl⟩ ⟨by show _ ≤ 601024; omega, by show _ ≤ 7293034; omega⟩ dL_law__2055) (fun H locs X => ?_)
  refine lv_istore (lv' := [(6, .int r2055), (5, .int r2037), (0, .ref b), (1, .ref (gB E + 0)), (2, .ref (gB E + 399)), (3, .ref (gB E + 411)), (4, .int i)]) C.1 C.2.1 dL_law__2058 hl (by decide) rfl (fun ls hl => ?_)
  refine lv_aload_n C.1 C.2.1 dL_law__2060 rfl (lv_at hl 4 rfl) ?_
  obtain ⟨r2061, e2061, h⟩ := bnd h
  refine afI X (runV C G X q_X12_thrown k_1722 k_1723 k_1721 (rcX12 G X kd_399) (c_X12_thrown l E e2061) rfl hl.1 rfl (Nat.le_of_ble_eq_true rfl) ⟨Nat.le_of_ble_eq_true rfl, Nat.le_of_ble_eq_true rfl⟩ ⟨by show _ ≤ 601024; omega, by show _ ≤ 7293034; omega⟩ dL_law__2061) (fun H locs X => ?_)
  refine lv_iload C.1 C.2.1 dL_law__2064 (lv_at hl 1 rfl) ?_
  refine lv_icmp_eq (tgt := 2071) C.1 C.2.1 dL_law__2066 (by decide) (fun c2066 => ?_) (fun c2066 => ?_)
  · replace h := ipos c2066 h
    refine lv_iload C.1 C.2.1 dL_law__2071 (lv_at hl 1 rfl) ?_
    refine lv_if_ne (tgt := 2088) C.1 C.2.1 dL_law__2073 (by decide) (fun c2073 => ?_) (fun c2073 => ?_)
    · replace h := ineg c2073 h
      refine lv_goto (tgt := 2792) C.1 C.2.1 dL_law__2088 (by decide) ?_
      cases h
      refine W.widen (k := cells + 4) (n := slots + 24) (by omega) (by omega) ?_
      exact kk H locs ls (lw_sub hl (by simp [LwL])) X
    · replace h := ipos c2073 h
      refine lv_aload_n C.1 C.2.1 dL_law__2076 rfl (lv_at hl 5 rfl) ?_
      refine lv_iconst (v := 0) C.1 C.2.1 dL_law__2077 (by decide) ?_
      refine ald_o C G X (k := 411) kd411 in411 dL_law__2078 ?_
      refine lv_iload C.1 C.2.1 dL_law__2079 (lv_at hl 0 rfl) ?_
      refine lv_i2l C.1 C.2.1 dL_law__2081 rfl ?_
      refine W.lcmp C.1 C.2.1 dL_law__2082 ?_
      refine lv_if_eq (tgt := 2088) C.1 C.2.1 dL_law__2083 (by decide) (fun c2083 => ?_) (fun c2083 => ?_)
      · replace h := ipos c2083 h
        refine lv_goto (tgt := 2792) C.1 C.2.1 dL_law__2088 (by decide) ?_
        cases h
        refine W.widen (k := cells + 4) (n := slots + 24) (by omega) (by omega) ?_
        exact kk H locs ls (lw_sub hl (by simp [LwL])) X
      · replace h := ineg c2083 h
        refine lv_iconst (v := 0) C.1 C.2.1 dL_law__2086 (by decide) ?_
        cases h
  · replace h := ineg c2066 h
    refine lv_iconst (v := 0) C.1 C.2.1 dL_law__2069 (by decide) ?_
    cases h
theorem lwc_36 (C : Cx p s m args meth c cL_law_ (some .boolean) 7 "PaneStreetLaw") (G : Gf E s) (hT : l.stackTraces = false) {x1 x2 x3 x4 x5 : Int32} (h : lw_36 x1 x2 x3 x4 x5 σ = some (true, σ')) (X : Hx E σ s H locs) (hl : lv_has ls 7 (LwL E b i)) (hX : va_X b L xs s s.heap) (hb : b < s.heap.size) (hbA : ¬ Fr E b) (q1 : LwX L xs (i + 1) x1) (q2 : LwX L xs (i + 2) x2) (q3 : LwX L xs (i + 3) x3) (q4 : LwX L xs (i + 4) x4) (q5 : LwX L xs (i + 5) x5) (hcc : cells ≤ 4000) (hss : slots ≤ 100000)
    (kk : ∀ (H1 : Heap) (locs1 : List Loc) (ls1 : Array Slot), lv_has ls1 7 (LwL E b i) → Hx E σ' s H1 locs1 → W p l e room_1 s m args below meth c H1 locs1 (cells + 4) (slots + 24) Q (F0 m 2792 ls1 [])) : W p l e room_1 s m args below meth c H locs cells slots Q (F0 m 2091 ls []) := by
  unfold lw_36 at h
  unfold LwL at hl
  refine lv_aload_n C.1 C.2.1 dL_law__2091 rfl (lv_at hl 1 rfl) ?_
  refine lv_aload_n C.1 C.2.1 dL_law__2092 rfl (lv_at hl 0 rfl) ?_
  refine lv_iload C.1 C.2.1 dL_law__2093 (lv_at hl 4 rfl) ?_
  refine lv_iconst (v := 1) C.1 C.2.1 dL_law__2095 (by decide) ?_
  refine lv_iadd C.1 C.2.1 dL_law__2096 ?_
  refine xld C X hX hb hbA q1 dL_law__2097 ?_
  refine lv_aload_n C.1 C.2.1 dL_law__2098 rfl (lv_at hl 0 rfl) ?_
  refine lv_iload C.1 C.2.1 dL_law__2099 (lv_at hl 4 rfl) ?_
  refine lv_iconst (v := 2) C.1 C.2.1 dL_law__2101 (by decide) ?_
  refine lv_iadd C.1 C.2.1 dL_law__2102 ?_
  refine xld C X hX hb hbA q2 dL_law__2103 ?_
  refine lv_aload_n C.1 C.2.1 dL_law__2104 rfl (lv_at hl 3 rfl) ?_
  obtain ⟨r2105, σ2105, e2105, h⟩ := bnd2 h
  refine afW (r0 := r2105) (σ' := σ2105) X (runSW_ (n := 4) C G X k_1570 k_103 (by decide +kernel) k_1569 k_1568 (c_L_rests l E hT e2105) rfl hl.1 rfl (Nat.le_of_ble_eq_true rfl) ⟨Nat.le_of_ble_eq_true rfl, Nat.le_of_ble_eq_true rfl⟩ ⟨by show _ ≤ 601024; omega, by show _ ≤ 7293034; omega⟩ dL_law__2105) (fun H locs X => ?_)
  refine lv_istore (lv' := [(5, .int r2105), (0, .ref b), (1, .ref (gB E + 0)), (2, .ref (gB E + 399)), (3, .ref (gB E + 411)), (4, .int i)]) C.1 C.2.1 dL_law__2108 hl (by decide) rfl (fun ls hl => ?_)
  refine lv_aload_n C.1 C.2.1 dL_law__2110 rfl (lv_at hl 3 rfl) ?_
  refine lv_aload_n C.1 C.2.1 dL_law__2111 rfl (lv_at hl 1 rfl) ?_
  refine lv_iload C.1 C.2.1 dL_law__2112 (lv_at hl 5 rfl) ?_
  refine lv_iconst (v := 1) C.1 C.2.1 dL_law__2114 (by decide) ?_
  refine lv_iadd C.1 C.2.1 dL_law__2115 ?_
  refine xld C X hX hb hbA q1 dL_law__2116 ?_
  refine lv_aload_n C.1 C.2.1 dL_law__2117 rfl (lv_at hl 1 rfl) ?_
  refine lv_iload C.1 C.2.1 dL_law__2118 (lv_at hl 5 rfl) ?_
  refine lv_iconst (v := 2) C.1 C.2.1 dL_law__2120 (by decide) ?_
  refine lv_iadd C.1 C.2.1 dL_law__2121 ?_
  refine xld C X hX hb hbA q2 dL_law__2122 ?_
  obtain ⟨r2123, σ2123, e2123, h⟩ := bnd2 h
  refine afI (r0 := r2123) (σ' := σ2123) X (runV C G X q_X12_rests k_2203 k_2204 k_2202 (rcX12 G X kd_399) (c_X12_rests l E e2123) rfl hl.1 rfl (Nat.le_of_ble_eq_true rfl) ⟨Nat.le_of_ble_eq_true rfl, Nat.le_of_ble_eq_true rfl⟩ ⟨by show _ ≤ 601024; omega, by show _ ≤ 7293034; omega⟩ dL_law__2123) (fun H locs X => ?_)
  refine lv_istore (lv' := [(6, .int r2123), (5, .int r2105), (0, .ref b), (1, .ref (gB E + 0)), (2, .ref (gB E + 399)), (3, .ref (gB E + 411)), (4, .int i)]) C.1 C.2.1 dL_law__2126 hl (by decide) rfl (fun ls hl => ?_)
  refine lv_aload_n C.1 C.2.1 dL_law__2128 rfl (lv_at hl 4 rfl) ?_
  obtain ⟨r2129, e2129, h⟩ := bnd h
  refine afI X (runV C G X q_X12_thrown k_1722 k_1723 k_1721 (rcX12 G X kd_399) (c_X12_thrown l E e2129) rfl hl.1 rfl (Nat.le_of_ble_eq_true rfl) ⟨Nat.le_of_ble_eq_true rfl, Nat.le_of_ble_eq_true rfl⟩ ⟨by show _ ≤ 601024; omega, by show _ ≤ 7293034; omega⟩ dL_law__2129) (fun H locs X => ?_)
  refine lv_iload C.1 C.2.1 dL_law__2132 (lv_at hl 1 rfl) ?_
  refine lv_icmp_eq (tgt := 2139) C.1 C.2.1 dL_law__2134 (by decide) (fun c2134 => ?_) (fun c2134 => ?_)
  · replace h := ipos c2134 h
    refine lv_iload C.1 C.2.1 dL_law__2139 (lv_at hl 1 rfl) ?_
    refine lv_if_ne (tgt := 2156) C.1 C.2.1 dL_law__2141 (by decide) (fun c2141 => ?_) (fun c2141 => ?_)
    · replace h := ineg c2141 h
      refine lv_goto (tgt := 2792) C.1 C.2.1 dL_law__2156 (by decide) ?_
      cases h
      refine W.widen (k := cells + 4) (n := slots + 24) (by omega) (by omega) ?_
      exact kk H locs ls (lw_sub hl (by simp [LwL])) X
    · replace h := ipos c2141 h
      refine lv_aload_n C.1 C.2.1 dL_law__2144 rfl (lv_at hl 5 rfl) ?_
      refine lv_iconst (v := 0) C.1 C.2.1 dL_law__2145 (by decide) ?_
      refine ald_o C G X (k := 411) kd411 in411 dL_law__2146 ?_
      refine lv_iload C.1 C.2.1 dL_law__2147 (lv_at hl 0 rfl) ?_
      refine lv_i2l C.1 C.2.1 dL_law__2149 rfl ?_
      refine W.lcmp C.1 C.2.1 dL_law__2150 ?_
      refine lv_if_eq (tgt := 2156) C.1 C.2.1 dL_law__2151 (by decide) (fun c2151 => ?_) (fun c2151 => ?_)
      · replace h := ipos c2151 h
        refine lv_goto (tgt := 2792) C.1 C.2.1 dL_law__2156 (by decide) ?_
        cases h
        refine W.widen (k := cells + 4) (n := slots + 24) (by omega) (by omega) ?_
        exact kk H locs ls (lw_sub hl (by simp [LwL])) X
      · replace h := ineg c2151 h
        refine lv_iconst (v := 0) C.1 C.2.1 dL_law__2154 (by decide) ?_
        cases h
  · replace h := ineg c2134 h
    refine lv_iconst (v := 0) C.1 C.2.1 dL_law__2137 (by decide) ?_
    cases h
theorem lwc_37 (C : Cx p s m args meth c cL_law_ (some .boolean) 7 "PaneStreetLaw") (G : Gf E s) (hT : l.stackTraces = false) {x1 x2 x3 x4 x5 : Int32} (h : lw_37 x1 x2 x3 x4 x5 σ = some (true, σ')) (X : Hx E σ s H locs) (hl : lv_has ls 7 (LwL E b i)) (hX : va_X b L xs s s.heap) (hb : b < s.heap.size) (hbA : ¬ Fr E b) (q1 : LwX L xs (i + 1) x1) (q2 : LwX L xs (i + 2) x2) (q3 : LwX L xs (i + 3) x3) (q4 : LwX L xs (i + 4) x4) (q5 : LwX L xs (i + 5) x5) (hcc : cells ≤ 4000) (hss : slots ≤ 100000)
    (kk : ∀ (H1 : Heap) (locs1 : List Loc) (ls1 : Array Slot), lv_has ls1 7 (LwL E b i) → Hx E σ' s H1 locs1 → W p l e room_1 s m args below meth c H1 locs1 (cells + 4) (slots + 24) Q (F0 m 2792 ls1 [])) : W p l e room_1 s m args below meth c H locs cells slots Q (F0 m 2159 ls []) := by
  unfold lw_37 at h
  unfold LwL at hl
  refine lv_aload_n C.1 C.2.1 dL_law__2159 rfl (lv_at hl 1 rfl) ?_
  refine lv_aload_n C.1 C.2.1 dL_law__2160 rfl (lv_at hl 0 rfl) ?_
  refine lv_iload C.1 C.2.1 dL_law__2161 (lv_at hl 4 rfl) ?_
  refine lv_iconst (v := 1) C.1 C.2.1 dL_law__2163 (by decide) ?_
  refine lv_iadd C.1 C.2.1 dL_law__2164 ?_
  refine xld C X hX hb hbA q1 dL_law__2165 ?_
  refine lv_aload_n C.1 C.2.1 dL_law__2166 rfl (lv_at hl 0 rfl) ?_
  refine lv_iload C.1 C.2.1 dL_law__2167 (lv_at hl 4 rfl) ?_
  refine lv_iconst (v := 2) C.1 C.2.1 dL_law__2169 (by decide) ?_
  refine lv_iadd C.1 C.2.1 dL_law__2170 ?_
  refine xld C X hX hb hbA q2 dL_law__2171 ?_
  refine lv_aload_n C.1 C.2.1 dL_law__2172 rfl (lv_at hl 3 rfl) ?_
  obtain ⟨r2173, σ2173, e2173, h⟩ := bnd2 h
  refine afW (r0 := r2173) (σ' := σ2173) X (runSW_ (n := 4) C G X k_1585 k_103 (by decide +kernel) k_1584 k_1583 (c_L_odds l E hT e2173) rfl hl.1 rfl (Nat.le_of_ble_eq_true rfl) ⟨Nat.le_of_ble_eq_true rfl, Nat.le_of_ble_eq_true rfl⟩ ⟨by show _ ≤ 601024; omega, by show _ ≤ 7293034; omega⟩ dL_law__2173) (fun H locs X => ?_)
  refine lv_istore (lv' := [(5, .int r2173), (0, .ref b), (1, .ref (gB E + 0)), (2, .ref (gB E + 399)), (3, .ref (gB E + 411)), (4, .int i)]) C.1 C.2.1 dL_law__2176 hl (by decide) rfl (fun ls hl => ?_)
  refine lv_aload_n C.1 C.2.1 dL_law__2178 rfl (lv_at hl 3 rfl) ?_
  refine lv_aload_n C.1 C.2.1 dL_law__2179 rfl (lv_at hl 1 rfl) ?_
  refine lv_iload C.1 C.2.1 dL_law__2180 (lv_at hl 5 rfl) ?_
  refine lv_iconst (v := 1) C.1 C.2.1 dL_law__2182 (by decide) ?_
  refine lv_iadd C.1 C.2.1 dL_law__2183 ?_
  refine xld C X hX hb hbA q1 dL_law__2184 ?_
  refine lv_aload_n C.1 C.2.1 dL_law__2185 rfl (lv_at hl 1 rfl) ?_
  refine lv_iload C.1 C.2.1 dL_law__2186 (lv_at hl 5 rfl) ?_
  refine lv_iconst (v := 2) C.1 C.2.1 dL_law__2188 (by decide) ?_
  refine lv_iadd C.1 C.2.1 dL_law__2189 ?_
  refine xld C X hX hb hbA q2 dL_law__2190 ?_
  obtain ⟨r2191, σ2191, e2191, h⟩ := bnd2 h
  refine afI (r0 := r2191) (σ' := σ2191) X (runV C G X q_X12_odds k_2211 k_2212 k_2210 (rcX12 G X kd_399) (c_X12_odds l E e2191) rfl hl.1 rfl (Nat.le_of_ble_eq_true rfl) ⟨Nat.le_of_ble_eq_true rfl, Nat.le_of_ble_eq_true rfl⟩ ⟨by show _ ≤ 601024; omega, by show _ ≤ 7293034; omega⟩ dL_law__2191) (fun H locs X => ?_)
  refine lv_istore (lv' := [(6, .int r2191), (5, .int r2173), (0, .ref b), (1, .ref (gB E + 0)), (2, .ref (gB E + 399)), (3, .ref (gB E + 411)), (4, .int i)]) C.1 C.2.1 dL_law__2194 hl (by decide) rfl (fun ls hl => ?_)
  refine lv_aload_n C.1 C.2.1 dL_law__2196 rfl (lv_at hl 4 rfl) ?_
  obtain ⟨r2197, e2197, h⟩ := bnd h
  refine afI X (runV C G X q_X12_thrown k_1722 k_1723 k_1721 (rcX12 G X kd_399) (c_X12_thrown l E e2197) rfl hl.1 rfl (Nat.le_of_ble_eq_true rfl) ⟨Nat.le_of_ble_eq_true rfl, Nat.le_of_ble_eq_true rfl⟩ ⟨by show _ ≤ 601024; omega, by show _ ≤ 7293034; omega⟩ dL_law__2197) (fun H locs X => ?_)
  refine lv_iload C.1 C.2.1 dL_law__2200 (lv_at hl 1 rfl) ?_
  refine lv_icmp_eq (tgt := 2207) C.1 C.2.1 dL_law__2202 (by decide) (fun c2202 => ?_) (fun c2202 => ?_)
  · replace h := ipos c2202 h
    refine lv_iload C.1 C.2.1 dL_law__2207 (lv_at hl 1 rfl) ?_
    refine lv_if_ne (tgt := 2224) C.1 C.2.1 dL_law__2209 (by decide) (fun c2209 => ?_) (fun c2209 => ?_)
    · replace h := ineg c2209 h
      refine lv_goto (tgt := 2792) C.1 C.2.1 dL_law__2224 (by decide) ?_
      cases h
      refine W.widen (k := cells + 4) (n := slots + 24) (by omega) (by omega) ?_
      exact kk H locs ls (lw_sub hl (by simp [LwL])) X
    · replace h := ipos c2209 h
      refine lv_aload_n C.1 C.2.1 dL_law__2212 rfl (lv_at hl 5 rfl) ?_
      refine lv_iconst (v := 0) C.1 C.2.1 dL_law__2213 (by decide) ?_
      refine ald_o C G X (k := 411) kd411 in411 dL_law__2214 ?_
      refine lv_iload C.1 C.2.1 dL_law__2215 (lv_at hl 0 rfl) ?_
      refine lv_i2l C.1 C.2.1 dL_law__2217 rfl ?_
      refine W.lcmp C.1 C.2.1 dL_law__2218 ?_
      refine lv_if_eq (tgt := 2224) C.1 C.2.1 dL_law__2219 (by decide) (fun c2219 => ?_) (fun c2219 => ?_)
      · replace h := ipos c2219 h
        refine lv_goto (tgt := 2792) C.1 C.2.1 dL_law__2224 (by decide) ?_
        cases h
        refine W.widen (k := cells + 4) (n := slots + 24) (by omega) (by omega) ?_
        exact kk H locs ls (lw_sub hl (by simp [LwL])) X
      · replace h := ineg c2219 h
        refine lv_iconst (v := 0) C.1 C.2.1 dL_law__2222 (by decide) ?_
        cases h
  · replace h := ineg c2202 h
    refine lv_iconst (v := 0) C.1 C.2.1 dL_law__2205 (by decide) ?_
    cases h
theorem lwc_38 (C : Cx p s m args meth c cL_law_ (some .boolean) 7 "PaneStreetLaw") (G : Gf E s) (hT : l.stackTraces = false) {x1 x2 x3 x4 x5 : Int32} (h : lw_38 x1 x2 x3 x4 x5 σ = some (true, σ')) (X : Hx E σ s H locs) (hl : lv_has ls 7 (LwL E b i)) (hX : va_X b L xs s s.heap) (hb : b < s.heap.size) (hbA : ¬ Fr E b) (q1 : LwX L xs (i + 1) x1) (q2 : LwX L xs (i + 2) x2) (q3 : LwX L xs (i + 3) x3) (q4 : LwX L xs (i + 4) x4) (q5 : LwX L xs (i + 5) x5) (hcc : cells ≤ 4000) (hss : slots ≤ 100000)
    (kk : ∀ (H1 : Heap) (locs1 : List Loc) (ls1 : Array Slot), lv_has ls1 7 (LwL E b i) → Hx E σ' s H1 locs1 → W p l e room_1 s m args below meth c H1 locs1 (cells + 4) (slots + 24) Q (F0 m 2792 ls1 [])) : W p l e room_1 s m args below meth c H locs cells slots Q (F0 m 2227 ls []) := by
  unfold lw_38 at h
  unfold LwL at hl
  refine lv_aload_n C.1 C.2.1 dL_law__2227 rfl (lv_at hl 1 rfl) ?_
  obtain ⟨r2228, e2228, h⟩ := bnd h
  refine afI X (runV C G X q_X11_bright k_695 k_696 k_694 (rcX11 G X kd_0) (c_X11_bright l E e2228) rfl hl.1 rfl (Nat.le_of_ble_eq_true rfl) ⟨Nat.le_of_ble_eq_true rfl, Nat.le_of_ble_eq_true rfl⟩ ⟨by show _ ≤ 601024; omega, by show _ ≤ 7293034; omega⟩ dL_law__2228) (fun H locs X => ?_)
  refine lv_aload_n C.1 C.2.1 dL_law__2231 rfl (lv_at hl 2 rfl) ?_
  obtain ⟨r2232, σ2232, e2232, h⟩ := bnd2 h
  refine afI (r0 := r2232) (σ' := σ2232) X (runV C G X q_X12_bright k_2217 k_2218 k_2216 (rcX12 G X kd_399) (c_X12_bright l E e2232) rfl hl.1 rfl (Nat.le_of_ble_eq_true rfl) ⟨Nat.le_of_ble_eq_true rfl, Nat.le_of_ble_eq_true rfl⟩ ⟨by show _ ≤ 601024; omega, by show _ ≤ 7293034; omega⟩ dL_law__2232) (fun H locs X => ?_)
  refine lv_icmp_eq (tgt := 2792) C.1 C.2.1 dL_law__2235 (by decide) (fun c2235 => ?_) (fun c2235 => ?_)
  · replace h := ipos c2235 h
    cases h
    refine W.widen (k := cells + 4) (n := slots + 24) (by omega) (by omega) ?_
    exact kk H locs ls (lw_sub hl (by simp [LwL])) X
  · replace h := ineg c2235 h
    refine lv_iconst (v := 0) C.1 C.2.1 dL_law__2238 (by decide) ?_
    cases h
theorem lwc_39 (C : Cx p s m args meth c cL_law_ (some .boolean) 7 "PaneStreetLaw") (G : Gf E s) (hT : l.stackTraces = false) {x1 x2 x3 x4 x5 : Int32} (h : lw_39 x1 x2 x3 x4 x5 σ = some (true, σ')) (X : Hx E σ s H locs) (hl : lv_has ls 7 (LwL E b i)) (hX : va_X b L xs s s.heap) (hb : b < s.heap.size) (hbA : ¬ Fr E b) (q1 : LwX L xs (i + 1) x1) (q2 : LwX L xs (i + 2) x2) (q3 : LwX L xs (i + 3) x3) (q4 : LwX L xs (i + 4) x4) (q5 : LwX L xs (i + 5) x5) (hcc : cells ≤ 4000) (hss : slots ≤ 100000)
    (kk : ∀ (H1 : Heap) (locs1 : List Loc) (ls1 : Array Slot), lv_has ls1 7 (LwL E b i) → Hx E σ' s H1 locs1 → W p l e room_1 s m args below meth c H1 locs1 (cells + 4) (slots + 24) Q (F0 m 2792 ls1 [])) : W p l e room_1 s m args below meth c H locs cells slots Q (F0 m 2240 ls []) := by
  unfold lw_39 at h
  unfold LwL at hl
  refine lv_aload_n C.1 C.2.1 dL_law__2240 rfl (lv_at hl 1 rfl) ?_
  obtain ⟨r2241, e2241, h⟩ := bnd h
  refine afI X (runV C G X q_X11_gloom k_699 k_700 k_698 (rcX11 G X kd_0) (c_X11_gloom l E e2241) rfl hl.1 rfl (Nat.le_of_ble_eq_true rfl) ⟨Nat.le_of_ble_eq_true rfl, Nat.le_of_ble_eq_true rfl⟩ ⟨by show _ ≤ 601024; omega, by show _ ≤ 7293034; omega⟩ dL_law__2241) (fun H locs X => ?_)
  refine lv_aload_n C.1 C.2.1 dL_law__2244 rfl (lv_at hl 2 rfl) ?_
  obtain ⟨r2245, σ2245, e2245, h⟩ := bnd2 h
  refine afI (r0 := r2245) (σ' := σ2245) X (runV C G X q_X12_gloom k_2221 k_2222 k_2220 (rcX12 G X kd_399) (c_X12_gloom l E e2245) rfl hl.1 rfl (Nat.le_of_ble_eq_true rfl) ⟨Nat.le_of_ble_eq_true rfl, Nat.le_of_ble_eq_true rfl⟩ ⟨by show _ ≤ 601024; omega, by show _ ≤ 7293034; omega⟩ dL_law__2245) (fun H locs X => ?_)
  refine lv_icmp_eq (tgt := 2792) C.1 C.2.1 dL_law__2248 (by decide) (fun c2248 => ?_) (fun c2248 => ?_)
  · replace h := ipos c2248 h
    cases h
    refine W.widen (k := cells + 4) (n := slots + 24) (by omega) (by omega) ?_
    exact kk H locs ls (lw_sub hl (by simp [LwL])) X
  · replace h := ineg c2248 h
    refine lv_iconst (v := 0) C.1 C.2.1 dL_law__2251 (by decide) ?_
    cases h
theorem lwc_40 (C : Cx p s m args meth c cL_law_ (some .boolean) 7 "PaneStreetLaw") (G : Gf E s) (hT : l.stackTraces = false) {x1 x2 x3 x4 x5 : Int32} (h : lw_40 x1 x2 x3 x4 x5 σ = some (true, σ')) (X : Hx E σ s H locs) (hl : lv_has ls 7 (LwL E b i)) (hX : va_X b L xs s s.heap) (hb : b < s.heap.size) (hbA : ¬ Fr E b) (q1 : LwX L xs (i + 1) x1) (q2 : LwX L xs (i + 2) x2) (q3 : LwX L xs (i + 3) x3) (q4 : LwX L xs (i + 4) x4) (q5 : LwX L xs (i + 5) x5) (hcc : cells ≤ 4000) (hss : slots ≤ 100000)
    (kk : ∀ (H1 : Heap) (locs1 : List Loc) (ls1 : Array Slot), lv_has ls1 7 (LwL E b i) → Hx E σ' s H1 locs1 → W p l e room_1 s m args below meth c H1 locs1 (cells + 4) (slots + 24) Q (F0 m 2792 ls1 [])) : W p l e room_1 s m args below meth c H locs cells slots Q (F0 m 2253 ls []) := by
  unfold lw_40 at h
  unfold LwL at hl
  refine lv_aload_n C.1 C.2.1 dL_law__2253 rfl (lv_at hl 1 rfl) ?_
  obtain ⟨r2254, e2254, h⟩ := bnd h
  refine afI X (runV C G X q_X11_lamplighter k_707 k_708 k_706 (rcX11 G X kd_0) (c_X11_lamplighter l E e2254) rfl hl.1 rfl (Nat.le_of_ble_eq_true rfl) ⟨Nat.le_of_ble_eq_true rfl, Nat.le_of_ble_eq_true rfl⟩ ⟨by show _ ≤ 601024; omega, by show _ ≤ 7293034; omega⟩ dL_law__2254) (fun H locs X => ?_)
  refine lv_aload_n C.1 C.2.1 dL_law__2257 rfl (lv_at hl 2 rfl) ?_
  obtain ⟨r2258, σ2258, e2258, h⟩ := bnd2 h
  refine afI (r0 := r2258) (σ' := σ2258) X (runV C G X q_X12_lamplighter k_2225 k_2226 k_2224 (rcX12 G X kd_399) (c_X12_lamplighter l E e2258) rfl hl.1 rfl (Nat.le_of_ble_eq_true rfl) ⟨Nat.le_of_ble_eq_true rfl, Nat.le_of_ble_eq_true rfl⟩ ⟨by show _ ≤ 601024; omega, by show _ ≤ 7293034; omega⟩ dL_law__2258) (fun H locs X => ?_)
  refine lv_icmp_eq (tgt := 2792) C.1 C.2.1 dL_law__2261 (by decide) (fun c2261 => ?_) (fun c2261 => ?_)
  · replace h := ipos c2261 h
    cases h
    refine W.widen (k := cells + 4) (n := slots + 24) (by omega) (by omega) ?_
    exact kk H locs ls (lw_sub hl (by simp [LwL])) X
  · replace h := ineg c2261 h
    refine lv_iconst (v := 0) C.1 C.2.1 dL_law__2264 (by decide) ?_
    cases h
theorem lwc_41 (C : Cx p s m args meth c cL_law_ (some .boolean) 7 "PaneStreetLaw") (G : Gf E s) (hT : l.stackTraces = false) {x1 x2 x3 x4 x5 : Int32} (h : lw_41 x1 x2 x3 x4 x5 σ = some (true, σ')) (X : Hx E σ s H locs) (hl : lv_has ls 7 (LwL E b i)) (hX : va_X b L xs s s.heap) (hb : b < s.heap.size) (hbA : ¬ Fr E b) (q1 : LwX L xs (i + 1) x1) (q2 : LwX L xs (i + 2) x2) (q3 : LwX L xs (i + 3) x3) (q4 : LwX L xs (i + 4) x4) (q5 : LwX L xs (i + 5) x5) (hcc : cells ≤ 4000) (hss : slots ≤ 100000)
    (kk : ∀ (H1 : Heap) (locs1 : List Loc) (ls1 : Array Slot), lv_has ls1 7 (LwL E b i) → Hx E σ' s H1 locs1 → W p l e room_1 s m args below meth c H1 locs1 (cells + 4) (slots + 24) Q (F0 m 2792 ls1 [])) : W p l e room_1 s m args below meth c H locs cells slots Q (F0 m 2266 ls []) := by
  unfold lw_41 at h
  unfold LwL at hl
  refine lv_aload_n C.1 C.2.1 dL_law__2266 rfl (lv_at hl 1 rfl) ?_
  obtain ⟨r2267, e2267, h⟩ := bnd h
  refine afI X (runV C G X q_X11_spent k_715 k_716 k_714 (rcX11 G X kd_0) (c_X11_spent l E e2267) rfl hl.1 rfl (Nat.le_of_ble_eq_true rfl) ⟨Nat.le_of_ble_eq_true rfl, Nat.le_of_ble_eq_true rfl⟩ ⟨by show _ ≤ 601024; omega, by show _ ≤ 7293034; omega⟩ dL_law__2267) (fun H locs X => ?_)
  refine lv_aload_n C.1 C.2.1 dL_law__2270 rfl (lv_at hl 2 rfl) ?_
  obtain ⟨r2271, σ2271, e2271, h⟩ := bnd2 h
  refine afI (r0 := r2271) (σ' := σ2271) X (runV C G X q_X12_spent k_2229 k_2230 k_2228 (rcX12 G X kd_399) (c_X12_spent l E e2271) rfl hl.1 rfl (Nat.le_of_ble_eq_true rfl) ⟨Nat.le_of_ble_eq_true rfl, Nat.le_of_ble_eq_true rfl⟩ ⟨by show _ ≤ 601024; omega, by show _ ≤ 7293034; omega⟩ dL_law__2271) (fun H locs X => ?_)
  refine lv_icmp_eq (tgt := 2792) C.1 C.2.1 dL_law__2274 (by decide) (fun c2274 => ?_) (fun c2274 => ?_)
  · replace h := ipos c2274 h
    cases h
    refine W.widen (k := cells + 4) (n := slots + 24) (by omega) (by omega) ?_
    exact kk H locs ls (lw_sub hl (by simp [LwL])) X
  · replace h := ineg c2274 h
    refine lv_iconst (v := 0) C.1 C.2.1 dL_law__2277 (by decide) ?_
    cases h
theorem lwc_42 (C : Cx p s m args meth c cL_law_ (some .boolean) 7 "PaneStreetLaw") (G : Gf E s) (hT : l.stackTraces = false) {x1 x2 x3 x4 x5 : Int32} (h : lw_42 x1 x2 x3 x4 x5 σ = some (true, σ')) (X : Hx E σ s H locs) (hl : lv_has ls 7 (LwL E b i)) (hX : va_X b L xs s s.heap) (hb : b < s.heap.size) (hbA : ¬ Fr E b) (q1 : LwX L xs (i + 1) x1) (q2 : LwX L xs (i + 2) x2) (q3 : LwX L xs (i + 3) x3) (q4 : LwX L xs (i + 4) x4) (q5 : LwX L xs (i + 5) x5) (hcc : cells ≤ 4000) (hss : slots ≤ 100000)
    (kk : ∀ (H1 : Heap) (locs1 : List Loc) (ls1 : Array Slot), lv_has ls1 7 (LwL E b i) → Hx E σ' s H1 locs1 → W p l e room_1 s m args below meth c H1 locs1 (cells + 4) (slots + 24) Q (F0 m 2792 ls1 [])) : W p l e room_1 s m args below meth c H locs cells slots Q (F0 m 2279 ls []) := by
  unfold lw_42 at h
  unfold LwL at hl
  refine lv_aload_n C.1 C.2.1 dL_law__2279 rfl (lv_at hl 1 rfl) ?_
  obtain ⟨r2280, e2280, h⟩ := bnd h
  refine afI X (runV C G X q_X11_crowd k_723 k_724 k_722 (rcX11 G X kd_0) (c_X11_crowd l E e2280) rfl hl.1 rfl (Nat.le_of_ble_eq_true rfl) ⟨Nat.le_of_ble_eq_true rfl, Nat.le_of_ble_eq_true rfl⟩ ⟨by show _ ≤ 601024; omega, by show _ ≤ 7293034; omega⟩ dL_law__2280) (fun H locs X => ?_)
  refine lv_aload_n C.1 C.2.1 dL_law__2283 rfl (lv_at hl 2 rfl) ?_
  obtain ⟨r2284, σ2284, e2284, h⟩ := bnd2 h
  refine afI (r0 := r2284) (σ' := σ2284) X (runV C G X q_X12_crowd k_2233 k_2234 k_2232 (rcX12 G X kd_399) (c_X12_crowd l E e2284) rfl hl.1 rfl (Nat.le_of_ble_eq_true rfl) ⟨Nat.le_of_ble_eq_true rfl, Nat.le_of_ble_eq_true rfl⟩ ⟨by show _ ≤ 601024; omega, by show _ ≤ 7293034; omega⟩ dL_law__2284) (fun H locs X => ?_)
  refine lv_icmp_eq (tgt := 2792) C.1 C.2.1 dL_law__2287 (by decide) (fun c2287 => ?_) (fun c2287 => ?_)
  · replace h := ipos c2287 h
    cases h
    refine W.widen (k := cells + 4) (n := slots + 24) (by omega) (by omega) ?_
    exact kk H locs ls (lw_sub hl (by simp [LwL])) X
  · replace h := ineg c2287 h
    refine lv_iconst (v := 0) C.1 C.2.1 dL_law__2290 (by decide) ?_
    cases h
theorem lwc_43 (C : Cx p s m args meth c cL_law_ (some .boolean) 7 "PaneStreetLaw") (G : Gf E s) (hT : l.stackTraces = false) {x1 x2 x3 x4 x5 : Int32} (h : lw_43 x1 x2 x3 x4 x5 σ = some (true, σ')) (X : Hx E σ s H locs) (hl : lv_has ls 7 (LwL E b i)) (hX : va_X b L xs s s.heap) (hb : b < s.heap.size) (hbA : ¬ Fr E b) (q1 : LwX L xs (i + 1) x1) (q2 : LwX L xs (i + 2) x2) (q3 : LwX L xs (i + 3) x3) (q4 : LwX L xs (i + 4) x4) (q5 : LwX L xs (i + 5) x5) (hcc : cells ≤ 4000) (hss : slots ≤ 100000)
    (kk : ∀ (H1 : Heap) (locs1 : List Loc) (ls1 : Array Slot), lv_has ls1 7 (LwL E b i) → Hx E σ' s H1 locs1 → W p l e room_1 s m args below meth c H1 locs1 (cells + 4) (slots + 24) Q (F0 m 2792 ls1 [])) : W p l e room_1 s m args below meth c H locs cells slots Q (F0 m 2292 ls []) := by
  unfold lw_43 at h
  unfold LwL at hl
  refine lv_aload_n C.1 C.2.1 dL_law__2292 rfl (lv_at hl 1 rfl) ?_
  obtain ⟨r2293, e2293, h⟩ := bnd h
  refine afI X (runV C G X q_X11_alike k_731 k_732 k_730 (rcX11 G X kd_0) (c_X11_alike l E e2293) rfl hl.1 rfl (Nat.le_of_ble_eq_true rfl) ⟨Nat.le_of_ble_eq_true rfl, Nat.le_of_ble_eq_true rfl⟩ ⟨by show _ ≤ 601024; omega, by show _ ≤ 7293034; omega⟩ dL_law__2293) (fun H locs X => ?_)
  refine lv_aload_n C.1 C.2.1 dL_law__2296 rfl (lv_at hl 2 rfl) ?_
  obtain ⟨r2297, σ2297, e2297, h⟩ := bnd2 h
  refine afI (r0 := r2297) (σ' := σ2297) X (runV C G X q_X12_alike k_2241 k_2242 k_2240 (rcX12 G X kd_399) (c_X12_alike l E e2297) rfl hl.1 rfl (Nat.le_of_ble_eq_true rfl) ⟨Nat.le_of_ble_eq_true rfl, Nat.le_of_ble_eq_true rfl⟩ ⟨by show _ ≤ 601024; omega, by show _ ≤ 7293034; omega⟩ dL_law__2297) (fun H locs X => ?_)
  refine lv_icmp_eq (tgt := 2792) C.1 C.2.1 dL_law__2300 (by decide) (fun c2300 => ?_) (fun c2300 => ?_)
  · replace h := ipos c2300 h
    cases h
    refine W.widen (k := cells + 4) (n := slots + 24) (by omega) (by omega) ?_
    exact kk H locs ls (lw_sub hl (by simp [LwL])) X
  · replace h := ineg c2300 h
    refine lv_iconst (v := 0) C.1 C.2.1 dL_law__2303 (by decide) ?_
    cases h
theorem lwc_44 (C : Cx p s m args meth c cL_law_ (some .boolean) 7 "PaneStreetLaw") (G : Gf E s) (hT : l.stackTraces = false) {x1 x2 x3 x4 x5 : Int32} (h : lw_44 x1 x2 x3 x4 x5 σ = some (true, σ')) (X : Hx E σ s H locs) (hl : lv_has ls 7 (LwL E b i)) (hX : va_X b L xs s s.heap) (hb : b < s.heap.size) (hbA : ¬ Fr E b) (q1 : LwX L xs (i + 1) x1) (q2 : LwX L xs (i + 2) x2) (q3 : LwX L xs (i + 3) x3) (q4 : LwX L xs (i + 4) x4) (q5 : LwX L xs (i + 5) x5) (hcc : cells ≤ 4000) (hss : slots ≤ 100000)
    (kk : ∀ (H1 : Heap) (locs1 : List Loc) (ls1 : Array Slot), lv_has ls1 7 (LwL E b i) → Hx E σ' s H1 locs1 → W p l e room_1 s m args below meth c H1 locs1 (cells + 4) (slots + 24) Q (F0 m 2792 ls1 [])) : W p l e room_1 s m args below meth c H locs cells slots Q (F0 m 2305 ls []) := by
  unfold lw_44 at h
  unfold LwL at hl
  refine lv_aload_n C.1 C.2.1 dL_law__2305 rfl (lv_at hl 1 rfl) ?_
  refine lv_aload_n C.1 C.2.1 dL_law__2306 rfl (lv_at hl 0 rfl) ?_
  refine lv_iload C.1 C.2.1 dL_law__2307 (lv_at hl 4 rfl) ?_
  refine lv_iconst (v := 1) C.1 C.2.1 dL_law__2309 (by decide) ?_
  refine lv_iadd C.1 C.2.1 dL_law__2310 ?_
  refine xld C X hX hb hbA q1 dL_law__2311 ?_
  refine lv_aload_n C.1 C.2.1 dL_law__2312 rfl (lv_at hl 0 rfl) ?_
  refine lv_iload C.1 C.2.1 dL_law__2313 (lv_at hl 4 rfl) ?_
  refine lv_iconst (v := 2) C.1 C.2.1 dL_law__2315 (by decide) ?_
  refine lv_iadd C.1 C.2.1 dL_law__2316 ?_
  refine xld C X hX hb hbA q2 dL_law__2317 ?_
  refine lv_aload_n C.1 C.2.1 dL_law__2318 rfl (lv_at hl 0 rfl) ?_
  refine lv_iload C.1 C.2.1 dL_law__2319 (lv_at hl 4 rfl) ?_
  refine lv_iconst (v := 3) C.1 C.2.1 dL_law__2321 (by decide) ?_
  refine lv_iadd C.1 C.2.1 dL_law__2322 ?_
  refine xld C X hX hb hbA q3 dL_law__2323 ?_
  refine lv_aload_n C.1 C.2.1 dL_law__2324 rfl (lv_at hl 3 rfl) ?_
  obtain ⟨r2325, σ2325, e2325, h⟩ := bnd2 h
  refine afW (r0 := r2325) (σ' := σ2325) X (runSW_ (n := 5) C G X k_1600 k_103 (by decide +kernel) k_1599 k_1598 (c_L_ahead l E hT e2325) rfl hl.1 rfl (Nat.le_of_ble_eq_true rfl) ⟨Nat.le_of_ble_eq_true rfl, Nat.le_of_ble_eq_true rfl⟩ ⟨by show _ ≤ 601024; omega, by show _ ≤ 7293034; omega⟩ dL_law__2325) (fun H locs X => ?_)
  refine lv_istore (lv' := [(5, .int r2325), (0, .ref b), (1, .ref (gB E + 0)), (2, .ref (gB E + 399)), (3, .ref (gB E + 411)), (4, .int i)]) C.1 C.2.1 dL_law__2328 hl (by decide) rfl (fun ls hl => ?_)
  refine lv_aload_n C.1 C.2.1 dL_law__2330 rfl (lv_at hl 3 rfl) ?_
  refine lv_aload_n C.1 C.2.1 dL_law__2331 rfl (lv_at hl 1 rfl) ?_
  refine lv_iload C.1 C.2.1 dL_law__2332 (lv_at hl 5 rfl) ?_
  refine lv_iconst (v := 1) C.1 C.2.1 dL_law__2334 (by decide) ?_
  refine lv_iadd C.1 C.2.1 dL_law__2335 ?_
  refine xld C X hX hb hbA q1 dL_law__2336 ?_
  refine lv_aload_n C.1 C.2.1 dL_law__2337 rfl (lv_at hl 1 rfl) ?_
  refine lv_iload C.1 C.2.1 dL_law__2338 (lv_at hl 5 rfl) ?_
  refine lv_iconst (v := 2) C.1 C.2.1 dL_law__2340 (by decide) ?_
  refine lv_iadd C.1 C.2.1 dL_law__2341 ?_
  refine xld C X hX hb hbA q2 dL_law__2342 ?_
  refine lv_aload_n C.1 C.2.1 dL_law__2343 rfl (lv_at hl 1 rfl) ?_
  refine lv_iload C.1 C.2.1 dL_law__2344 (lv_at hl 5 rfl) ?_
  refine lv_iconst (v := 3) C.1 C.2.1 dL_law__2346 (by decide) ?_
  refine lv_iadd C.1 C.2.1 dL_law__2347 ?_
  refine xld C X hX hb hbA q3 dL_law__2348 ?_
  obtain ⟨r2349, σ2349, e2349, h⟩ := bnd2 h
  refine afI (r0 := r2349) (σ' := σ2349) X (runV C G X q_X12_ahead k_2245 k_2246 k_2244 (rcX12 G X kd_399) (c_X12_ahead l E e2349) rfl hl.1 rfl (Nat.le_of_ble_eq_true rfl) ⟨Nat.le_of_ble_eq_true rfl, Nat.le_of_ble_eq_true rfl⟩ ⟨by show _ ≤ 601024; omega, by show _ ≤ 7293034; omega⟩ dL_law__2349) (fun H locs X => ?_)
  refine lv_istore (lv' := [(6, .int r2349), (5, .int r2325), (0, .ref b), (1, .ref (gB E + 0)), (2, .ref (gB E + 399)), (3, .ref (gB E + 411)), (4, .int i)]) C.1 C.2.1 dL_law__2352 hl (by decide) rfl (fun ls hl => ?_)
  refine lv_aload_n C.1 C.2.1 dL_law__2354 rfl (lv_at hl 4 rfl) ?_
  obtain ⟨r2355, e2355, h⟩ := bnd h
  refine afI X (runV C G X q_X12_thrown k_1722 k_1723 k_1721 (rcX12 G X kd_399) (c_X12_thrown l E e2355) rfl hl.1 rfl (Nat.le_of_ble_eq_true rfl) ⟨Nat.le_of_ble_eq_true rfl, Nat.le_of_ble_eq_true rfl⟩ ⟨by show _ ≤ 601024; omega, by show _ ≤ 7293034; omega⟩ dL_law__2355) (fun H locs X => ?_)
  refine lv_iload C.1 C.2.1 dL_law__2358 (lv_at hl 1 rfl) ?_
  refine lv_icmp_eq (tgt := 2365) C.1 C.2.1 dL_law__2360 (by decide) (fun c2360 => ?_) (fun c2360 => ?_)
  · replace h := ipos c2360 h
    refine lv_iload C.1 C.2.1 dL_law__2365 (lv_at hl 1 rfl) ?_
    refine lv_if_ne (tgt := 2382) C.1 C.2.1 dL_law__2367 (by decide) (fun c2367 => ?_) (fun c2367 => ?_)
    · replace h := ineg c2367 h
      refine lv_goto (tgt := 2792) C.1 C.2.1 dL_law__2382 (by decide) ?_
      cases h
      refine W.widen (k := cells + 4) (n := slots + 24) (by omega) (by omega) ?_
      exact kk H locs ls (lw_sub hl (by simp [LwL])) X
    · replace h := ipos c2367 h
      refine lv_aload_n C.1 C.2.1 dL_law__2370 rfl (lv_at hl 5 rfl) ?_
      refine lv_iconst (v := 0) C.1 C.2.1 dL_law__2371 (by decide) ?_
      refine ald_o C G X (k := 411) kd411 in411 dL_law__2372 ?_
      refine lv_iload C.1 C.2.1 dL_law__2373 (lv_at hl 0 rfl) ?_
      refine lv_i2l C.1 C.2.1 dL_law__2375 rfl ?_
      refine W.lcmp C.1 C.2.1 dL_law__2376 ?_
      refine lv_if_eq (tgt := 2382) C.1 C.2.1 dL_law__2377 (by decide) (fun c2377 => ?_) (fun c2377 => ?_)
      · replace h := ipos c2377 h
        refine lv_goto (tgt := 2792) C.1 C.2.1 dL_law__2382 (by decide) ?_
        cases h
        refine W.widen (k := cells + 4) (n := slots + 24) (by omega) (by omega) ?_
        exact kk H locs ls (lw_sub hl (by simp [LwL])) X
      · replace h := ineg c2377 h
        refine lv_iconst (v := 0) C.1 C.2.1 dL_law__2380 (by decide) ?_
        cases h
  · replace h := ineg c2360 h
    refine lv_iconst (v := 0) C.1 C.2.1 dL_law__2363 (by decide) ?_
    cases h
theorem lwc_45 (C : Cx p s m args meth c cL_law_ (some .boolean) 7 "PaneStreetLaw") (G : Gf E s) (hT : l.stackTraces = false) {x1 x2 x3 x4 x5 : Int32} (h : lw_45 x1 x2 x3 x4 x5 σ = some (true, σ')) (X : Hx E σ s H locs) (hl : lv_has ls 7 (LwL E b i)) (hX : va_X b L xs s s.heap) (hb : b < s.heap.size) (hbA : ¬ Fr E b) (q1 : LwX L xs (i + 1) x1) (q2 : LwX L xs (i + 2) x2) (q3 : LwX L xs (i + 3) x3) (q4 : LwX L xs (i + 4) x4) (q5 : LwX L xs (i + 5) x5) (hcc : cells ≤ 4000) (hss : slots ≤ 100000)
    (kk : ∀ (H1 : Heap) (locs1 : List Loc) (ls1 : Array Slot), lv_has ls1 7 (LwL E b i) → Hx E σ' s H1 locs1 → W p l e room_1 s m args below meth c H1 locs1 (cells + 4) (slots + 24) Q (F0 m 2792 ls1 [])) : W p l e room_1 s m args below meth c H locs cells slots Q (F0 m 2385 ls []) := by
  unfold lw_45 at h
  unfold LwL at hl
  refine lv_aload_n C.1 C.2.1 dL_law__2385 rfl (lv_at hl 1 rfl) ?_
  refine lv_aload_n C.1 C.2.1 dL_law__2386 rfl (lv_at hl 0 rfl) ?_
  refine lv_iload C.1 C.2.1 dL_law__2387 (lv_at hl 4 rfl) ?_
  refine lv_iconst (v := 1) C.1 C.2.1 dL_law__2389 (by decide) ?_
  refine lv_iadd C.1 C.2.1 dL_law__2390 ?_
  refine xld C X hX hb hbA q1 dL_law__2391 ?_
  refine lv_aload_n C.1 C.2.1 dL_law__2392 rfl (lv_at hl 0 rfl) ?_
  refine lv_iload C.1 C.2.1 dL_law__2393 (lv_at hl 4 rfl) ?_
  refine lv_iconst (v := 2) C.1 C.2.1 dL_law__2395 (by decide) ?_
  refine lv_iadd C.1 C.2.1 dL_law__2396 ?_
  refine xld C X hX hb hbA q2 dL_law__2397 ?_
  refine lv_if_eq (tgt := 2405) C.1 C.2.1 dL_law__2398 (by decide) (fun c2398 => ?_) (fun c2398 => ?_)
  · replace h := ipos c2398 h
    refine lv_iconst (v := 0) C.1 C.2.1 dL_law__2405 (by decide) ?_
    refine lv_aload_n C.1 C.2.1 dL_law__2406 rfl (lv_at hl 3 rfl) ?_
    obtain ⟨r2407, σ2407, e2407, h⟩ := bnd2 h
    refine afW (r0 := r2407) (σ' := σ2407) X (runSW_ (n := 4) C G X k_1612 k_103 (by decide +kernel) k_1611 k_1610 (c_L_trial l E hT e2407) rfl hl.1 rfl (Nat.le_of_ble_eq_true rfl) ⟨Nat.le_of_ble_eq_true rfl, Nat.le_of_ble_eq_true rfl⟩ ⟨by show _ ≤ 601024; omega, by show _ ≤ 7293034; omega⟩ dL_law__2407) (fun H locs X => ?_)
    refine lv_istore (lv' := [(5, .int r2407), (0, .ref b), (1, .ref (gB E + 0)), (2, .ref (gB E + 399)), (3, .ref (gB E + 411)), (4, .int i)]) C.1 C.2.1 dL_law__2410 hl (by decide) rfl (fun ls hl => ?_)
    refine lv_aload_n C.1 C.2.1 dL_law__2412 rfl (lv_at hl 3 rfl) ?_
    refine lv_aload_n C.1 C.2.1 dL_law__2413 rfl (lv_at hl 1 rfl) ?_
    refine lv_iload C.1 C.2.1 dL_law__2414 (lv_at hl 5 rfl) ?_
    refine lv_iconst (v := 1) C.1 C.2.1 dL_law__2416 (by decide) ?_
    refine lv_iadd C.1 C.2.1 dL_law__2417 ?_
    refine xld C X hX hb hbA q1 dL_law__2418 ?_
    refine lv_aload_n C.1 C.2.1 dL_law__2419 rfl (lv_at hl 1 rfl) ?_
    refine lv_iload C.1 C.2.1 dL_law__2420 (lv_at hl 5 rfl) ?_
    refine lv_iconst (v := 2) C.1 C.2.1 dL_law__2422 (by decide) ?_
    refine lv_iadd C.1 C.2.1 dL_law__2423 ?_
    refine xld C X hX hb hbA q2 dL_law__2424 ?_
    refine lv_if_eq (tgt := 2432) C.1 C.2.1 dL_law__2425 (by decide) (fun c2425 => ?_) (fun c2425 => ?_)
    · replace h := ipos c2425 h
      refine lv_iconst (v := 0) C.1 C.2.1 dL_law__2432 (by decide) ?_
      obtain ⟨r2433, σ2433, e2433, h⟩ := bnd2 h
      refine afI (r0 := r2433) (σ' := σ2433) X (runV C G X q_X12_trial k_2249 k_2250 k_2248 (rcX12 G X kd_399) (c_X12_trial l E e2433) rfl hl.1 rfl (Nat.le_of_ble_eq_true rfl) ⟨Nat.le_of_ble_eq_true rfl, Nat.le_of_ble_eq_true rfl⟩ ⟨by show _ ≤ 601024; omega, by show _ ≤ 7293034; omega⟩ dL_law__2433) (fun H locs X => ?_)
      refine lv_istore (lv' := [(6, .int r2433), (5, .int r2407), (0, .ref b), (1, .ref (gB E + 0)), (2, .ref (gB E + 399)), (3, .ref (gB E + 411)), (4, .int i)]) C.1 C.2.1 dL_law__2436 hl (by decide) rfl (fun ls hl => ?_)
      refine lv_aload_n C.1 C.2.1 dL_law__2438 rfl (lv_at hl 4 rfl) ?_
      obtain ⟨r2439, e2439, h⟩ := bnd h
      refine afI X (runV C G X q_X12_thrown k_1722 k_1723 k_1721 (rcX12 G X kd_399) (c_X12_thrown l E e2439) rfl hl.1 rfl (Nat.le_of_ble_eq_true rfl) ⟨Nat.le_of_ble_eq_true rfl, Nat.le_of_ble_eq_true rfl⟩ ⟨by show _ ≤ 601024; omega, by show _ ≤ 7293034; omega⟩ dL_law__2439) (fun H locs X => ?_)
      refine lv_iload C.1 C.2.1 dL_law__2442 (lv_at hl 1 rfl) ?_
      refine lv_icmp_eq (tgt := 2449) C.1 C.2.1 dL_law__2444 (by decide) (fun c2444 => ?_) (fun c2444 => ?_)
      · replace h := ipos c2444 h
        refine lv_iload C.1 C.2.1 dL_law__2449 (lv_at hl 1 rfl) ?_
        refine lv_if_ne (tgt := 2466) C.1 C.2.1 dL_law__2451 (by decide) (fun c2451 => ?_) (fun c2451 => ?_)
        · replace h := ineg c2451 h
          refine lv_goto (tgt := 2792) C.1 C.2.1 dL_law__2466 (by decide) ?_
          cases h
          refine W.widen (k := cells + 4) (n := slots + 24) (by omega) (by omega) ?_
          exact kk H locs ls (lw_sub hl (by simp [LwL])) X
        · replace h := ipos c2451 h
          refine lv_aload_n C.1 C.2.1 dL_law__2454 rfl (lv_at hl 5 rfl) ?_
          refine lv_iconst (v := 0) C.1 C.2.1 dL_law__2455 (by decide) ?_
          refine ald_o C G X (k := 411) kd411 in411 dL_law__2456 ?_
          refine lv_iload C.1 C.2.1 dL_law__2457 (lv_at hl 0 rfl) ?_
          refine lv_i2l C.1 C.2.1 dL_law__2459 rfl ?_
          refine W.lcmp C.1 C.2.1 dL_law__2460 ?_
          refine lv_if_eq (tgt := 2466) C.1 C.2.1 dL_law__2461 (by decide) (fun c2461 => ?_) (fun c2461 => ?_)
          · replace h := ipos c2461 h
            refine lv_goto (tgt := 2792) C.1 C.2.1 dL_law__2466 (by decide) ?_
            cases h
            refine W.widen (k := cells + 4) (n := slots + 24) (by omega) (by omega) ?_
            exact kk H locs ls (lw_sub hl (by simp [LwL])) X
          · replace h := ineg c2461 h
            refine lv_iconst (v := 0) C.1 C.2.1 dL_law__2464 (by decide) ?_
            cases h
      · replace h := ineg c2444 h
        refine lv_iconst (v := 0) C.1 C.2.1 dL_law__2447 (by decide) ?_
        cases h
    · replace h := ineg c2425 h
      refine lv_iconst (v := 1) C.1 C.2.1 dL_law__2428 (by decide) ?_
      refine lv_goto (tgt := 2433) C.1 C.2.1 dL_law__2429 (by decide) ?_
      obtain ⟨r2433, σ2433, e2433, h⟩ := bnd2 h
      refine afI (r0 := r2433) (σ' := σ2433) X (runV C G X q_X12_trial k_2249 k_2250 k_2248 (rcX12 G X kd_399) (c_X12_trial l E e2433) rfl hl.1 rfl (Nat.le_of_ble_eq_true rfl) ⟨Nat.le_of_ble_eq_true rfl, Nat.le_of_ble_eq_true rfl⟩ ⟨by show _ ≤ 601024; omega, by show _ ≤ 7293034; omega⟩ dL_law__2433) (fun H locs X => ?_)
      refine lv_istore (lv' := [(6, .int r2433), (5, .int r2407), (0, .ref b), (1, .ref (gB E + 0)), (2, .ref (gB E + 399)), (3, .ref (gB E + 411)), (4, .int i)]) C.1 C.2.1 dL_law__2436 hl (by decide) rfl (fun ls hl => ?_)
      refine lv_aload_n C.1 C.2.1 dL_law__2438 rfl (lv_at hl 4 rfl) ?_
      obtain ⟨r2439, e2439, h⟩ := bnd h
      refine afI X (runV C G X q_X12_thrown k_1722 k_1723 k_1721 (rcX12 G X kd_399) (c_X12_thrown l E e2439) rfl hl.1 rfl (Nat.le_of_ble_eq_true rfl) ⟨Nat.le_of_ble_eq_true rfl, Nat.le_of_ble_eq_true rfl⟩ ⟨by show _ ≤ 601024; omega, by show _ ≤ 7293034; omega⟩ dL_law__2439) (fun H locs X => ?_)
      refine lv_iload C.1 C.2.1 dL_law__2442 (lv_at hl 1 rfl) ?_
      refine lv_icmp_eq (tgt := 2449) C.1 C.2.1 dL_law__2444 (by decide) (fun c2444 => ?_) (fun c2444 => ?_)
      · replace h := ipos c2444 h
        refine lv_iload C.1 C.2.1 dL_law__2449 (lv_at hl 1 rfl) ?_
        refine lv_if_ne (tgt := 2466) C.1 C.2.1 dL_law__2451 (by decide) (fun c2451 => ?_) (fun c2451 => ?_)
        · replace h := ineg c2451 h
          refine lv_goto (tgt := 2792) C.1 C.2.1 dL_law__2466 (by decide) ?_
          cases h
          refine W.widen (k := cells + 4) (n := slots + 24) (by omega) (by omega) ?_
          exact kk H locs ls (lw_sub hl (by simp [LwL])) X
        · replace h := ipos c2451 h
          refine lv_aload_n C.1 C.2.1 dL_law__2454 rfl (lv_at hl 5 rfl) ?_
          refine lv_iconst (v := 0) C.1 C.2.1 dL_law__2455 (by decide) ?_
          refine ald_o C G X (k := 411) kd411 in411 dL_law__2456 ?_
          refine lv_iload C.1 C.2.1 dL_law__2457 (lv_at hl 0 rfl) ?_
          refine lv_i2l C.1 C.2.1 dL_law__2459 rfl ?_
          refine W.lcmp C.1 C.2.1 dL_law__2460 ?_
          refine lv_if_eq (tgt := 2466) C.1 C.2.1 dL_law__2461 (by decide) (fun c2461 => ?_) (fun c2461 => ?_)
          · replace h := ipos c2461 h
            refine lv_goto (tgt := 2792) C.1 C.2.1 dL_law__2466 (by decide) ?_
            cases h
            refine W.widen (k := cells + 4) (n := slots + 24) (by omega) (by omega) ?_
            exact kk H locs ls (lw_sub hl (by simp [LwL])) X
          · replace h := ineg c2461 h
            refine lv_iconst (v := 0) C.1 C.2.1 dL_law__2464 (by decide) ?_
            cases h
      · replace h := ineg c2444 h
        refine lv_iconst (v := 0) C.1 C.2.1 dL_law__2447 (by decide) ?_
        cases h
  · replace h := ineg c2398 h
    refine lv_iconst (v := 1) C.1 C.2.1 dL_law__2401 (by decide) ?_
    refine lv_goto (tgt := 2406) C.1 C.2.1 dL_law__2402 (by decide) ?_
    refine lv_aload_n C.1 C.2.1 dL_law__2406 rfl (lv_at hl 3 rfl) ?_
    obtain ⟨r2407, σ2407, e2407, h⟩ := bnd2 h
    refine afW (r0 := r2407) (σ' := σ2407) X (runSW_ (n := 4) C G X k_1612 k_103 (by decide +kernel) k_1611 k_1610 (c_L_trial l E hT e2407) rfl hl.1 rfl (Nat.le_of_ble_eq_true rfl) ⟨Nat.le_of_ble_eq_true rfl, Nat.le_of_ble_eq_true rfl⟩ ⟨by show _ ≤ 601024; omega, by show _ ≤ 7293034; omega⟩ dL_law__2407) (fun H locs X => ?_)
    refine lv_istore (lv' := [(5, .int r2407), (0, .ref b), (1, .ref (gB E + 0)), (2, .ref (gB E + 399)), (3, .ref (gB E + 411)), (4, .int i)]) C.1 C.2.1 dL_law__2410 hl (by decide) rfl (fun ls hl => ?_)
    refine lv_aload_n C.1 C.2.1 dL_law__2412 rfl (lv_at hl 3 rfl) ?_
    refine lv_aload_n C.1 C.2.1 dL_law__2413 rfl (lv_at hl 1 rfl) ?_
    refine lv_iload C.1 C.2.1 dL_law__2414 (lv_at hl 5 rfl) ?_
    refine lv_iconst (v := 1) C.1 C.2.1 dL_law__2416 (by decide) ?_
    refine lv_iadd C.1 C.2.1 dL_law__2417 ?_
    refine xld C X hX hb hbA q1 dL_law__2418 ?_
    refine lv_aload_n C.1 C.2.1 dL_law__2419 rfl (lv_at hl 1 rfl) ?_
    refine lv_iload C.1 C.2.1 dL_law__2420 (lv_at hl 5 rfl) ?_
    refine lv_iconst (v := 2) C.1 C.2.1 dL_law__2422 (by decide) ?_
    refine lv_iadd C.1 C.2.1 dL_law__2423 ?_
    refine xld C X hX hb hbA q2 dL_law__2424 ?_
    refine lv_if_eq (tgt := 2432) C.1 C.2.1 dL_law__2425 (by decide) (fun c2425 => ?_) (fun c2425 => ?_)
    · replace h := ipos c2425 h
      refine lv_iconst (v := 0) C.1 C.2.1 dL_law__2432 (by decide) ?_
      obtain ⟨r2433, σ2433, e2433, h⟩ := bnd2 h
      refine afI (r0 := r2433) (σ' := σ2433) X (runV C G X q_X12_trial k_2249 k_2250 k_2248 (rcX12 G X kd_399) (c_X12_trial l E e2433) rfl hl.1 rfl (Nat.le_of_ble_eq_true rfl) ⟨Nat.le_of_ble_eq_true rfl, Nat.le_of_ble_eq_true rfl⟩ ⟨by show _ ≤ 601024; omega, by show _ ≤ 7293034; omega⟩ dL_law__2433) (fun H locs X => ?_)
      refine lv_istore (lv' := [(6, .int r2433), (5, .int r2407), (0, .ref b), (1, .ref (gB E + 0)), (2, .ref (gB E + 399)), (3, .ref (gB E + 411)), (4, .int i)]) C.1 C.2.1 dL_law__2436 hl (by decide) rfl (fun ls hl => ?_)
      refine lv_aload_n C.1 C.2.1 dL_law__2438 rfl (lv_at hl 4 rfl) ?_
      obtain ⟨r2439, e2439, h⟩ := bnd h
      refine afI X (runV C G X q_X12_thrown k_1722 k_1723 k_1721 (rcX12 G X kd_399) (c_X12_thrown l E e2439) rfl hl.1 rfl (Nat.le_of_ble_eq_true rfl) ⟨Nat.le_of_ble_eq_true rfl, Nat.le_of_ble_eq_true rfl⟩ ⟨by show _ ≤ 601024; omega, by show _ ≤ 7293034; omega⟩ dL_law__2439) (fun H locs X => ?_)
      refine lv_iload C.1 C.2.1 dL_law__2442 (lv_at hl 1 rfl) ?_
      refine lv_icmp_eq (tgt := 2449) C.1 C.2.1 dL_law__2444 (by decide) (fun c2444 => ?_) (fun c2444 => ?_)
      · replace h := ipos c2444 h
        refine lv_iload C.1 C.2.1 dL_law__2449 (lv_at hl 1 rfl) ?_
        refine lv_if_ne (tgt := 2466) C.1 C.2.1 dL_law__2451 (by decide) (fun c2451 => ?_) (fun c2451 => ?_)
        · replace h := ineg c2451 h
          refine lv_goto (tgt := 2792) C.1 C.2.1 dL_law__2466 (by decide) ?_
          cases h
          refine W.widen (k := cells + 4) (n := slots + 24) (by omega) (by omega) ?_
          exact kk H locs ls (lw_sub hl (by simp [LwL])) X
        · replace h := ipos c2451 h
          refine lv_aload_n C.1 C.2.1 dL_law__2454 rfl (lv_at hl 5 rfl) ?_
          refine lv_iconst (v := 0) C.1 C.2.1 dL_law__2455 (by decide) ?_
          refine ald_o C G X (k := 411) kd411 in411 dL_law__2456 ?_
          refine lv_iload C.1 C.2.1 dL_law__2457 (lv_at hl 0 rfl) ?_
          refine lv_i2l C.1 C.2.1 dL_law__2459 rfl ?_
          refine W.lcmp C.1 C.2.1 dL_law__2460 ?_
          refine lv_if_eq (tgt := 2466) C.1 C.2.1 dL_law__2461 (by decide) (fun c2461 => ?_) (fun c2461 => ?_)
          · replace h := ipos c2461 h
            refine lv_goto (tgt := 2792) C.1 C.2.1 dL_law__2466 (by decide) ?_
            cases h
            refine W.widen (k := cells + 4) (n := slots + 24) (by omega) (by omega) ?_
            exact kk H locs ls (lw_sub hl (by simp [LwL])) X
          · replace h := ineg c2461 h
            refine lv_iconst (v := 0) C.1 C.2.1 dL_law__2464 (by decide) ?_
            cases h
      · replace h := ineg c2444 h
        refine lv_iconst (v := 0) C.1 C.2.1 dL_law__2447 (by decide) ?_
        cases h
    · replace h := ineg c2425 h
      refine lv_iconst (v := 1) C.1 C.2.1 dL_law__2428 (by decide) ?_
      refine lv_goto (tgt := 2433) C.1 C.2.1 dL_law__2429 (by decide) ?_
      obtain ⟨r2433, σ2433, e2433, h⟩ := bnd2 h
      refine afI (r0 := r2433) (σ' := σ2433) X (runV C G X q_X12_trial k_2249 k_2250 k_2248 (rcX12 G X kd_399) (c_X12_trial l E e2433) rfl hl.1 rfl (Nat.le_of_ble_eq_true rfl) ⟨Nat.le_of_ble_eq_true rfl, Nat.le_of_ble_eq_true rfl⟩ ⟨by show _ ≤ 601024; omega, by show _ ≤ 7293034; omega⟩ dL_law__2433) (fun H locs X => ?_)
      refine lv_istore (lv' := [(6, .int r2433), (5, .int r2407), (0, .ref b), (1, .ref (gB E + 0)), (2, .ref (gB E + 399)), (3, .ref (gB E + 411)), (4, .int i)]) C.1 C.2.1 dL_law__2436 hl (by decide) rfl (fun ls hl => ?_)
      refine lv_aload_n C.1 C.2.1 dL_law__2438 rfl (lv_at hl 4 rfl) ?_
      obtain ⟨r2439, e2439, h⟩ := bnd h
      refine afI X (runV C G X q_X12_thrown k_1722 k_1723 k_1721 (rcX12 G X kd_399) (c_X12_thrown l E e2439) rfl hl.1 rfl (Nat.le_of_ble_eq_true rfl) ⟨Nat.le_of_ble_eq_true rfl, Nat.le_of_ble_eq_true rfl⟩ ⟨by show _ ≤ 601024; omega, by show _ ≤ 7293034; omega⟩ dL_law__2439) (fun H locs X => ?_)
      refine lv_iload C.1 C.2.1 dL_law__2442 (lv_at hl 1 rfl) ?_
      refine lv_icmp_eq (tgt := 2449) C.1 C.2.1 dL_law__2444 (by decide) (fun c2444 => ?_) (fun c2444 => ?_)
      · replace h := ipos c2444 h
        refine lv_iload C.1 C.2.1 dL_law__2449 (lv_at hl 1 rfl) ?_
        refine lv_if_ne (tgt := 2466) C.1 C.2.1 dL_law__2451 (by decide) (fun c2451 => ?_) (fun c2451 => ?_)
        · replace h := ineg c2451 h
          refine lv_goto (tgt := 2792) C.1 C.2.1 dL_law__2466 (by decide) ?_
          cases h
          refine W.widen (k := cells + 4) (n := slots + 24) (by omega) (by omega) ?_
          exact kk H locs ls (lw_sub hl (by simp [LwL])) X
        · replace h := ipos c2451 h
          refine lv_aload_n C.1 C.2.1 dL_law__2454 rfl (lv_at hl 5 rfl) ?_
          refine lv_iconst (v := 0) C.1 C.2.1 dL_law__2455 (by decide) ?_
          refine ald_o C G X (k := 411) kd411 in411 dL_law__2456 ?_
          refine lv_iload C.1 C.2.1 dL_law__2457 (lv_at hl 0 rfl) ?_
          refine lv_i2l C.1 C.2.1 dL_law__2459 rfl ?_
          refine W.lcmp C.1 C.2.1 dL_law__2460 ?_
          refine lv_if_eq (tgt := 2466) C.1 C.2.1 dL_law__2461 (by decide) (fun c2461 => ?_) (fun c2461 => ?_)
          · replace h := ipos c2461 h
            refine lv_goto (tgt := 2792) C.1 C.2.1 dL_law__2466 (by decide) ?_
            cases h
            refine W.widen (k := cells + 4) (n := slots + 24) (by omega) (by omega) ?_
            exact kk H locs ls (lw_sub hl (by simp [LwL])) X
          · replace h := ineg c2461 h
            refine lv_iconst (v := 0) C.1 C.2.1 dL_law__2464 (by decide) ?_
            cases h
      · replace h := ineg c2444 h
        refine lv_iconst (v := 0) C.1 C.2.1 dL_law__2447 (by decide) ?_
        cases h
theorem lwc_46 (C : Cx p s m args meth c cL_law_ (some .boolean) 7 "PaneStreetLaw") (G : Gf E s) (hT : l.stackTraces = false) {x1 x2 x3 x4 x5 : Int32} (h : lw_46 x1 x2 x3 x4 x5 σ = some (true, σ')) (X : Hx E σ s H locs) (hl : lv_has ls 7 (LwL E b i)) (hX : va_X b L xs s s.heap) (hb : b < s.heap.size) (hbA : ¬ Fr E b) (q1 : LwX L xs (i + 1) x1) (q2 : LwX L xs (i + 2) x2) (q3 : LwX L xs (i + 3) x3) (q4 : LwX L xs (i + 4) x4) (q5 : LwX L xs (i + 5) x5) (hcc : cells ≤ 4000) (hss : slots ≤ 100000)
    (kk : ∀ (H1 : Heap) (locs1 : List Loc) (ls1 : Array Slot), lv_has ls1 7 (LwL E b i) → Hx E σ' s H1 locs1 → W p l e room_1 s m args below meth c H1 locs1 (cells + 4) (slots + 24) Q (F0 m 2792 ls1 [])) : W p l e room_1 s m args below meth c H locs cells slots Q (F0 m 2469 ls []) := by
  unfold lw_46 at h
  unfold LwL at hl
  refine lv_aload_n C.1 C.2.1 dL_law__2469 rfl (lv_at hl 1 rfl) ?_
  refine lv_aload_n C.1 C.2.1 dL_law__2470 rfl (lv_at hl 0 rfl) ?_
  refine lv_iload C.1 C.2.1 dL_law__2471 (lv_at hl 4 rfl) ?_
  refine lv_iconst (v := 1) C.1 C.2.1 dL_law__2473 (by decide) ?_
  refine lv_iadd C.1 C.2.1 dL_law__2474 ?_
  refine xld C X hX hb hbA q1 dL_law__2475 ?_
  refine lv_aload_n C.1 C.2.1 dL_law__2476 rfl (lv_at hl 0 rfl) ?_
  refine lv_iload C.1 C.2.1 dL_law__2477 (lv_at hl 4 rfl) ?_
  refine lv_iconst (v := 2) C.1 C.2.1 dL_law__2479 (by decide) ?_
  refine lv_iadd C.1 C.2.1 dL_law__2480 ?_
  refine xld C X hX hb hbA q2 dL_law__2481 ?_
  refine lv_if_eq (tgt := 2489) C.1 C.2.1 dL_law__2482 (by decide) (fun c2482 => ?_) (fun c2482 => ?_)
  · replace h := ipos c2482 h
    refine lv_iconst (v := 0) C.1 C.2.1 dL_law__2489 (by decide) ?_
    refine lv_aload_n C.1 C.2.1 dL_law__2490 rfl (lv_at hl 3 rfl) ?_
    obtain ⟨r2491, σ2491, e2491, h⟩ := bnd2 h
    refine afW (r0 := r2491) (σ' := σ2491) X (runSW_ (n := 4) C G X k_1619 k_103 (by decide +kernel) k_1618 k_1617 (c_L_span l E hT e2491) rfl hl.1 rfl (Nat.le_of_ble_eq_true rfl) ⟨Nat.le_of_ble_eq_true rfl, Nat.le_of_ble_eq_true rfl⟩ ⟨by show _ ≤ 601024; omega, by show _ ≤ 7293034; omega⟩ dL_law__2491) (fun H locs X => ?_)
    refine lv_istore (lv' := [(5, .int r2491), (0, .ref b), (1, .ref (gB E + 0)), (2, .ref (gB E + 399)), (3, .ref (gB E + 411)), (4, .int i)]) C.1 C.2.1 dL_law__2494 hl (by decide) rfl (fun ls hl => ?_)
    refine lv_aload_n C.1 C.2.1 dL_law__2496 rfl (lv_at hl 3 rfl) ?_
    refine lv_aload_n C.1 C.2.1 dL_law__2497 rfl (lv_at hl 1 rfl) ?_
    refine lv_iload C.1 C.2.1 dL_law__2498 (lv_at hl 5 rfl) ?_
    refine lv_iconst (v := 1) C.1 C.2.1 dL_law__2500 (by decide) ?_
    refine lv_iadd C.1 C.2.1 dL_law__2501 ?_
    refine xld C X hX hb hbA q1 dL_law__2502 ?_
    refine lv_aload_n C.1 C.2.1 dL_law__2503 rfl (lv_at hl 1 rfl) ?_
    refine lv_iload C.1 C.2.1 dL_law__2504 (lv_at hl 5 rfl) ?_
    refine lv_iconst (v := 2) C.1 C.2.1 dL_law__2506 (by decide) ?_
    refine lv_iadd C.1 C.2.1 dL_law__2507 ?_
    refine xld C X hX hb hbA q2 dL_law__2508 ?_
    refine lv_if_eq (tgt := 2516) C.1 C.2.1 dL_law__2509 (by decide) (fun c2509 => ?_) (fun c2509 => ?_)
    · replace h := ipos c2509 h
      refine lv_iconst (v := 0) C.1 C.2.1 dL_law__2516 (by decide) ?_
      obtain ⟨r2517, σ2517, e2517, h⟩ := bnd2 h
      refine afI (r0 := r2517) (σ' := σ2517) X (runV C G X q_X12_span k_2257 k_2258 k_2256 (rcX12 G X kd_399) (c_X12_span l E e2517) rfl hl.1 rfl (Nat.le_of_ble_eq_true rfl) ⟨Nat.le_of_ble_eq_true rfl, Nat.le_of_ble_eq_true rfl⟩ ⟨by show _ ≤ 601024; omega, by show _ ≤ 7293034; omega⟩ dL_law__2517) (fun H locs X => ?_)
      refine lv_istore (lv' := [(6, .int r2517), (5, .int r2491), (0, .ref b), (1, .ref (gB E + 0)), (2, .ref (gB E + 399)), (3, .ref (gB E + 411)), (4, .int i)]) C.1 C.2.1 dL_law__2520 hl (by decide) rfl (fun ls hl => ?_)
      refine lv_aload_n C.1 C.2.1 dL_law__2522 rfl (lv_at hl 4 rfl) ?_
      obtain ⟨r2523, e2523, h⟩ := bnd h
      refine afI X (runV C G X q_X12_thrown k_1722 k_1723 k_1721 (rcX12 G X kd_399) (c_X12_thrown l E e2523) rfl hl.1 rfl (Nat.le_of_ble_eq_true rfl) ⟨Nat.le_of_ble_eq_true rfl, Nat.le_of_ble_eq_true rfl⟩ ⟨by show _ ≤ 601024; omega, by show _ ≤ 7293034; omega⟩ dL_law__2523) (fun H locs X => ?_)
      refine lv_iload C.1 C.2.1 dL_law__2526 (lv_at hl 1 rfl) ?_
      refine lv_icmp_eq (tgt := 2533) C.1 C.2.1 dL_law__2528 (by decide) (fun c2528 => ?_) (fun c2528 => ?_)
      · replace h := ipos c2528 h
        refine lv_iload C.1 C.2.1 dL_law__2533 (lv_at hl 1 rfl) ?_
        refine lv_if_ne (tgt := 2550) C.1 C.2.1 dL_law__2535 (by decide) (fun c2535 => ?_) (fun c2535 => ?_)
        · replace h := ineg c2535 h
          refine lv_goto (tgt := 2792) C.1 C.2.1 dL_law__2550 (by decide) ?_
          cases h
          refine W.widen (k := cells + 4) (n := slots + 24) (by omega) (by omega) ?_
          exact kk H locs ls (lw_sub hl (by simp [LwL])) X
        · replace h := ipos c2535 h
          refine lv_aload_n C.1 C.2.1 dL_law__2538 rfl (lv_at hl 5 rfl) ?_
          refine lv_iconst (v := 0) C.1 C.2.1 dL_law__2539 (by decide) ?_
          refine ald_o C G X (k := 411) kd411 in411 dL_law__2540 ?_
          refine lv_iload C.1 C.2.1 dL_law__2541 (lv_at hl 0 rfl) ?_
          refine lv_i2l C.1 C.2.1 dL_law__2543 rfl ?_
          refine W.lcmp C.1 C.2.1 dL_law__2544 ?_
          refine lv_if_eq (tgt := 2550) C.1 C.2.1 dL_law__2545 (by decide) (fun c2545 => ?_) (fun c2545 => ?_)
          · replace h := ipos c2545 h
            refine lv_goto (tgt := 2792) C.1 C.2.1 dL_law__2550 (by decide) ?_
            cases h
            refine W.widen (k := cells + 4) (n := slots + 24) (by omega) (by omega) ?_
            exact kk H locs ls (lw_sub hl (by simp [LwL])) X
          · replace h := ineg c2545 h
            refine lv_iconst (v := 0) C.1 C.2.1 dL_law__2548 (by decide) ?_
            cases h
      · replace h := ineg c2528 h
        refine lv_iconst (v := 0) C.1 C.2.1 dL_law__2531 (by decide) ?_
        cases h
    · replace h := ineg c2509 h
      refine lv_iconst (v := 1) C.1 C.2.1 dL_law__2512 (by decide) ?_
      refine lv_goto (tgt := 2517) C.1 C.2.1 dL_law__2513 (by decide) ?_
      obtain ⟨r2517, σ2517, e2517, h⟩ := bnd2 h
      refine afI (r0 := r2517) (σ' := σ2517) X (runV C G X q_X12_span k_2257 k_2258 k_2256 (rcX12 G X kd_399) (c_X12_span l E e2517) rfl hl.1 rfl (Nat.le_of_ble_eq_true rfl) ⟨Nat.le_of_ble_eq_true rfl, Nat.le_of_ble_eq_true rfl⟩ ⟨by show _ ≤ 601024; omega, by show _ ≤ 7293034; omega⟩ dL_law__2517) (fun H locs X => ?_)
      refine lv_istore (lv' := [(6, .int r2517), (5, .int r2491), (0, .ref b), (1, .ref (gB E + 0)), (2, .ref (gB E + 399)), (3, .ref (gB E + 411)), (4, .int i)]) C.1 C.2.1 dL_law__2520 hl (by decide) rfl (fun ls hl => ?_)
      refine lv_aload_n C.1 C.2.1 dL_law__2522 rfl (lv_at hl 4 rfl) ?_
      obtain ⟨r2523, e2523, h⟩ := bnd h
      refine afI X (runV C G X q_X12_thrown k_1722 k_1723 k_1721 (rcX12 G X kd_399) (c_X12_thrown l E e2523) rfl hl.1 rfl (Nat.le_of_ble_eq_true rfl) ⟨Nat.le_of_ble_eq_true rfl, Nat.le_of_ble_eq_true rfl⟩ ⟨by show _ ≤ 601024; omega, by show _ ≤ 7293034; omega⟩ dL_law__2523) (fun H locs X => ?_)
      refine lv_iload C.1 C.2.1 dL_law__2526 (lv_at hl 1 rfl) ?_
      refine lv_icmp_eq (tgt := 2533) C.1 C.2.1 dL_law__2528 (by decide) (fun c2528 => ?_) (fun c2528 => ?_)
      · replace h := ipos c2528 h
        refine lv_iload C.1 C.2.1 dL_law__2533 (lv_at hl 1 rfl) ?_
        refine lv_if_ne (tgt := 2550) C.1 C.2.1 dL_law__2535 (by decide) (fun c2535 => ?_) (fun c2535 => ?_)
        · replace h := ineg c2535 h
          refine lv_goto (tgt := 2792) C.1 C.2.1 dL_law__2550 (by decide) ?_
          cases h
          refine W.widen (k := cells + 4) (n := slots + 24) (by omega) (by omega) ?_
          exact kk H locs ls (lw_sub hl (by simp [LwL])) X
        · replace h := ipos c2535 h
          refine lv_aload_n C.1 C.2.1 dL_law__2538 rfl (lv_at hl 5 rfl) ?_
          refine lv_iconst (v := 0) C.1 C.2.1 dL_law__2539 (by decide) ?_
          refine ald_o C G X (k := 411) kd411 in411 dL_law__2540 ?_
          refine lv_iload C.1 C.2.1 dL_law__2541 (lv_at hl 0 rfl) ?_
          refine lv_i2l C.1 C.2.1 dL_law__2543 rfl ?_
          refine W.lcmp C.1 C.2.1 dL_law__2544 ?_
          refine lv_if_eq (tgt := 2550) C.1 C.2.1 dL_law__2545 (by decide) (fun c2545 => ?_) (fun c2545 => ?_)
          · replace h := ipos c2545 h
            refine lv_goto (tgt := 2792) C.1 C.2.1 dL_law__2550 (by decide) ?_
            cases h
            refine W.widen (k := cells + 4) (n := slots + 24) (by omega) (by omega) ?_
            exact kk H locs ls (lw_sub hl (by simp [LwL])) X
          · replace h := ineg c2545 h
            refine lv_iconst (v := 0) C.1 C.2.1 dL_law__2548 (by decide) ?_
            cases h
      · replace h := ineg c2528 h
        refine lv_iconst (v := 0) C.1 C.2.1 dL_law__2531 (by decide) ?_
        cases h
  · replace h := ineg c2482 h
    refine lv_iconst (v := 1) C.1 C.2.1 dL_law__2485 (by decide) ?_
    refine lv_goto (tgt := 2490) C.1 C.2.1 dL_law__2486 (by decide) ?_
    refine lv_aload_n C.1 C.2.1 dL_law__2490 rfl (lv_at hl 3 rfl) ?_
    obtain ⟨r2491, σ2491, e2491, h⟩ := bnd2 h
    refine afW (r0 := r2491) (σ' := σ2491) X (runSW_ (n := 4) C G X k_1619 k_103 (by decide +kernel) k_1618 k_1617 (c_L_span l E hT e2491) rfl hl.1 rfl (Nat.le_of_ble_eq_true rfl) ⟨Nat.le_of_ble_eq_true rfl, Nat.le_of_ble_eq_true rfl⟩ ⟨by show _ ≤ 601024; omega, by show _ ≤ 7293034; omega⟩ dL_law__2491) (fun H locs X => ?_)
    refine lv_istore (lv' := [(5, .int r2491), (0, .ref b), (1, .ref (gB E + 0)), (2, .ref (gB E + 399)), (3, .ref (gB E + 411)), (4, .int i)]) C.1 C.2.1 dL_law__2494 hl (by decide) rfl (fun ls hl => ?_)
    refine lv_aload_n C.1 C.2.1 dL_law__2496 rfl (lv_at hl 3 rfl) ?_
    refine lv_aload_n C.1 C.2.1 dL_law__2497 rfl (lv_at hl 1 rfl) ?_
    refine lv_iload C.1 C.2.1 dL_law__2498 (lv_at hl 5 rfl) ?_
    refine lv_iconst (v := 1) C.1 C.2.1 dL_law__2500 (by decide) ?_
    refine lv_iadd C.1 C.2.1 dL_law__2501 ?_
    refine xld C X hX hb hbA q1 dL_law__2502 ?_
    refine lv_aload_n C.1 C.2.1 dL_law__2503 rfl (lv_at hl 1 rfl) ?_
    refine lv_iload C.1 C.2.1 dL_law__2504 (lv_at hl 5 rfl) ?_
    refine lv_iconst (v := 2) C.1 C.2.1 dL_law__2506 (by decide) ?_
    refine lv_iadd C.1 C.2.1 dL_law__2507 ?_
    refine xld C X hX hb hbA q2 dL_law__2508 ?_
    refine lv_if_eq (tgt := 2516) C.1 C.2.1 dL_law__2509 (by decide) (fun c2509 => ?_) (fun c2509 => ?_)
    · replace h := ipos c2509 h
      refine lv_iconst (v := 0) C.1 C.2.1 dL_law__2516 (by decide) ?_
      obtain ⟨r2517, σ2517, e2517, h⟩ := bnd2 h
      refine afI (r0 := r2517) (σ' := σ2517) X (runV C G X q_X12_span k_2257 k_2258 k_2256 (rcX12 G X kd_399) (c_X12_span l E e2517) rfl hl.1 rfl (Nat.le_of_ble_eq_true rfl) ⟨Nat.le_of_ble_eq_true rfl, Nat.le_of_ble_eq_true rfl⟩ ⟨by show _ ≤ 601024; omega, by show _ ≤ 7293034; omega⟩ dL_law__2517) (fun H locs X => ?_)
      refine lv_istore (lv' := [(6, .int r2517), (5, .int r2491), (0, .ref b), (1, .ref (gB E + 0)), (2, .ref (gB E + 399)), (3, .ref (gB E + 411)), (4, .int i)]) C.1 C.2.1 dL_law__2520 hl (by decide) rfl (fun ls hl => ?_)
      refine lv_aload_n C.1 C.2.1 dL_law__2522 rfl (lv_at hl 4 rfl) ?_
      obtain ⟨r2523, e2523, h⟩ := bnd h
      refine afI X (runV C G X q_X12_thrown k_1722 k_1723 k_1721 (rcX12 G X kd_399) (c_X12_thrown l E e2523) rfl hl.1 rfl (Nat.le_of_ble_eq_true rfl) ⟨Nat.le_of_ble_eq_true rfl, Nat.le_of_ble_eq_true rfl⟩ ⟨by show _ ≤ 601024; omega, by show _ ≤ 7293034; omega⟩ dL_law__2523) (fun H locs X => ?_)
      refine lv_iload C.1 C.2.1 dL_law__2526 (lv_at hl 1 rfl) ?_
      refine lv_icmp_eq (tgt := 2533) C.1 C.2.1 dL_law__2528 (by decide) (fun c2528 => ?_) (fun c2528 => ?_)
      · replace h := ipos c2528 h
        refine lv_iload C.1 C.2.1 dL_law__2533 (lv_at hl 1 rfl) ?_
        refine lv_if_ne (tgt := 2550) C.1 C.2.1 dL_law__2535 (by decide) (fun c2535 => ?_) (fun c2535 => ?_)
        · replace h := ineg c2535 h
          refine lv_goto (tgt := 2792) C.1 C.2.1 dL_law__2550 (by decide) ?_
          cases h
          refine W.widen (k := cells + 4) (n := slots + 24) (by omega) (by omega) ?_
          exact kk H locs ls (lw_sub hl (by simp [LwL])) X
        · replace h := ipos c2535 h
          refine lv_aload_n C.1 C.2.1 dL_law__2538 rfl (lv_at hl 5 rfl) ?_
          refine lv_iconst (v := 0) C.1 C.2.1 dL_law__2539 (by decide) ?_
          refine ald_o C G X (k := 411) kd411 in411 dL_law__2540 ?_
          refine lv_iload C.1 C.2.1 dL_law__2541 (lv_at hl 0 rfl) ?_
          refine lv_i2l C.1 C.2.1 dL_law__2543 rfl ?_
          refine W.lcmp C.1 C.2.1 dL_law__2544 ?_
          refine lv_if_eq (tgt := 2550) C.1 C.2.1 dL_law__2545 (by decide) (fun c2545 => ?_) (fun c2545 => ?_)
          · replace h := ipos c2545 h
            refine lv_goto (tgt := 2792) C.1 C.2.1 dL_law__2550 (by decide) ?_
            cases h
            refine W.widen (k := cells + 4) (n := slots + 24) (by omega) (by omega) ?_
            exact kk H locs ls (lw_sub hl (by simp [LwL])) X
          · replace h := ineg c2545 h
            refine lv_iconst (v := 0) C.1 C.2.1 dL_law__2548 (by decide) ?_
            cases h
      · replace h := ineg c2528 h
        refine lv_iconst (v := 0) C.1 C.2.1 dL_law__2531 (by decide) ?_
        cases h
    · replace h := ineg c2509 h
      refine lv_iconst (v := 1) C.1 C.2.1 dL_law__2512 (by decide) ?_
      refine lv_goto (tgt := 2517) C.1 C.2.1 dL_law__2513 (by decide) ?_
      obtain ⟨r2517, σ2517, e2517, h⟩ := bnd2 h
      refine afI (r0 := r2517) (σ' := σ2517) X (runV C G X q_X12_span k_2257 k_2258 k_2256 (rcX12 G X kd_399) (c_X12_span l E e2517) rfl hl.1 rfl (Nat.le_of_ble_eq_true rfl) ⟨Nat.le_of_ble_eq_true rfl, Nat.le_of_ble_eq_true rfl⟩ ⟨by show _ ≤ 601024; omega, by show _ ≤ 7293034; omega⟩ dL_law__2517) (fun H locs X => ?_)
      refine lv_istore (lv' := [(6, .int r2517), (5, .int r2491), (0, .ref b), (1, .ref (gB E + 0)), (2, .ref (gB E + 399)), (3, .ref (gB E + 411)), (4, .int i)]) C.1 C.2.1 dL_law__2520 hl (by decide) rfl (fun ls hl => ?_)
      refine lv_aload_n C.1 C.2.1 dL_law__2522 rfl (lv_at hl 4 rfl) ?_
      obtain ⟨r2523, e2523, h⟩ := bnd h
      refine afI X (runV C G X q_X12_thrown k_1722 k_1723 k_1721 (rcX12 G X kd_399) (c_X12_thrown l E e2523) rfl hl.1 rfl (Nat.le_of_ble_eq_true rfl) ⟨Nat.le_of_ble_eq_true rfl, Nat.le_of_ble_eq_true rfl⟩ ⟨by show _ ≤ 601024; omega, by show _ ≤ 7293034; omega⟩ dL_law__2523) (fun H locs X => ?_)
      refine lv_iload C.1 C.2.1 dL_law__2526 (lv_at hl 1 rfl) ?_
      refine lv_icmp_eq (tgt := 2533) C.1 C.2.1 dL_law__2528 (by decide) (fun c2528 => ?_) (fun c2528 => ?_)
      · replace h := ipos c2528 h
        refine lv_iload C.1 C.2.1 dL_law__2533 (lv_at hl 1 rfl) ?_
        refine lv_if_ne (tgt := 2550) C.1 C.2.1 dL_law__2535 (by decide) (fun c2535 => ?_) (fun c2535 => ?_)
        · replace h := ineg c2535 h
          refine lv_goto (tgt := 2792) C.1 C.2.1 dL_law__2550 (by decide) ?_
          cases h
          refine W.widen (k := cells + 4) (n := slots + 24) (by omega) (by omega) ?_
          exact kk H locs ls (lw_sub hl (by simp [LwL])) X
        · replace h := ipos c2535 h
          refine lv_aload_n C.1 C.2.1 dL_law__2538 rfl (lv_at hl 5 rfl) ?_
          refine lv_iconst (v := 0) C.1 C.2.1 dL_law__2539 (by decide) ?_
          refine ald_o C G X (k := 411) kd411 in411 dL_law__2540 ?_
          refine lv_iload C.1 C.2.1 dL_law__2541 (lv_at hl 0 rfl) ?_
          refine lv_i2l C.1 C.2.1 dL_law__2543 rfl ?_
          refine W.lcmp C.1 C.2.1 dL_law__2544 ?_
          refine lv_if_eq (tgt := 2550) C.1 C.2.1 dL_law__2545 (by decide) (fun c2545 => ?_) (fun c2545 => ?_)
          · replace h := ipos c2545 h
            refine lv_goto (tgt := 2792) C.1 C.2.1 dL_law__2550 (by decide) ?_
            cases h
            refine W.widen (k := cells + 4) (n := slots + 24) (by omega) (by omega) ?_
            exact kk H locs ls (lw_sub hl (by simp [LwL])) X
          · replace h := ineg c2545 h
            refine lv_iconst (v := 0) C.1 C.2.1 dL_law__2548 (by decide) ?_
            cases h
      · replace h := ineg c2528 h
        refine lv_iconst (v := 0) C.1 C.2.1 dL_law__2531 (by decide) ?_
        cases h
theorem lwc_47 (C : Cx p s m args meth c cL_law_ (some .boolean) 7 "PaneStreetLaw") (G : Gf E s) (hT : l.stackTraces = false) {x1 x2 x3 x4 x5 : Int32} (h : lw_47 x1 x2 x3 x4 x5 σ = some (true, σ')) (X : Hx E σ s H locs) (hl : lv_has ls 7 (LwL E b i)) (hX : va_X b L xs s s.heap) (hb : b < s.heap.size) (hbA : ¬ Fr E b) (q1 : LwX L xs (i + 1) x1) (q2 : LwX L xs (i + 2) x2) (q3 : LwX L xs (i + 3) x3) (q4 : LwX L xs (i + 4) x4) (q5 : LwX L xs (i + 5) x5) (hcc : cells ≤ 4000) (hss : slots ≤ 100000)
    (kk : ∀ (H1 : Heap) (locs1 : List Loc) (ls1 : Array Slot), lv_has ls1 7 (LwL E b i) → Hx E σ' s H1 locs1 → W p l e room_1 s m args below meth c H1 locs1 (cells + 4) (slots + 24) Q (F0 m 2792 ls1 [])) : W p l e room_1 s m args below meth c H locs cells slots Q (F0 m 2553 ls []) := by
  unfold lw_47 at h
  unfold LwL at hl
  refine lv_aload_n C.1 C.2.1 dL_law__2553 rfl (lv_at hl 1 rfl) ?_
  refine lv_aload_n C.1 C.2.1 dL_law__2554 rfl (lv_at hl 0 rfl) ?_
  refine lv_iload C.1 C.2.1 dL_law__2555 (lv_at hl 4 rfl) ?_
  refine lv_iconst (v := 1) C.1 C.2.1 dL_law__2557 (by decide) ?_
  refine lv_iadd C.1 C.2.1 dL_law__2558 ?_
  refine xld C X hX hb hbA q1 dL_law__2559 ?_
  refine lv_aload_n C.1 C.2.1 dL_law__2560 rfl (lv_at hl 0 rfl) ?_
  refine lv_iload C.1 C.2.1 dL_law__2561 (lv_at hl 4 rfl) ?_
  refine lv_iconst (v := 2) C.1 C.2.1 dL_law__2563 (by decide) ?_
  refine lv_iadd C.1 C.2.1 dL_law__2564 ?_
  refine xld C X hX hb hbA q2 dL_law__2565 ?_
  refine lv_if_eq (tgt := 2573) C.1 C.2.1 dL_law__2566 (by decide) (fun c2566 => ?_) (fun c2566 => ?_)
  · replace h := ipos c2566 h
    refine lv_iconst (v := 0) C.1 C.2.1 dL_law__2573 (by decide) ?_
    refine lv_aload_n C.1 C.2.1 dL_law__2574 rfl (lv_at hl 3 rfl) ?_
    obtain ⟨r2575, σ2575, e2575, h⟩ := bnd2 h
    refine afW (r0 := r2575) (σ' := σ2575) X (runSW_ (n := 4) C G X k_1628 k_103 (by decide +kernel) k_1627 k_1626 (c_L_led l E hT e2575) rfl hl.1 rfl (Nat.le_of_ble_eq_true rfl) ⟨Nat.le_of_ble_eq_true rfl, Nat.le_of_ble_eq_true rfl⟩ ⟨by show _ ≤ 601024; omega, by show _ ≤ 7293034; omega⟩ dL_law__2575) (fun H locs X => ?_)
    refine lv_istore (lv' := [(5, .int r2575), (0, .ref b), (1, .ref (gB E + 0)), (2, .ref (gB E + 399)), (3, .ref (gB E + 411)), (4, .int i)]) C.1 C.2.1 dL_law__2578 hl (by decide) rfl (fun ls hl => ?_)
    refine lv_aload_n C.1 C.2.1 dL_law__2580 rfl (lv_at hl 3 rfl) ?_
    refine lv_aload_n C.1 C.2.1 dL_law__2581 rfl (lv_at hl 1 rfl) ?_
    refine lv_iload C.1 C.2.1 dL_law__2582 (lv_at hl 5 rfl) ?_
    refine lv_iconst (v := 1) C.1 C.2.1 dL_law__2584 (by decide) ?_
    refine lv_iadd C.1 C.2.1 dL_law__2585 ?_
    refine xld C X hX hb hbA q1 dL_law__2586 ?_
    refine lv_aload_n C.1 C.2.1 dL_law__2587 rfl (lv_at hl 1 rfl) ?_
    refine lv_iload C.1 C.2.1 dL_law__2588 (lv_at hl 5 rfl) ?_
    refine lv_iconst (v := 2) C.1 C.2.1 dL_law__2590 (by decide) ?_
    refine lv_iadd C.1 C.2.1 dL_law__2591 ?_
    refine xld C X hX hb hbA q2 dL_law__2592 ?_
    refine lv_if_eq (tgt := 2600) C.1 C.2.1 dL_law__2593 (by decide) (fun c2593 => ?_) (fun c2593 => ?_)
    · replace h := ipos c2593 h
      refine lv_iconst (v := 0) C.1 C.2.1 dL_law__2600 (by decide) ?_
      obtain ⟨r2601, σ2601, e2601, h⟩ := bnd2 h
      refine afI (r0 := r2601) (σ' := σ2601) X (runV C G X q_X12_led k_2261 k_2262 k_2260 (rcX12 G X kd_399) (c_X12_led l E e2601) rfl hl.1 rfl (Nat.le_of_ble_eq_true rfl) ⟨Nat.le_of_ble_eq_true rfl, Nat.le_of_ble_eq_true rfl⟩ ⟨by show _ ≤ 601024; omega, by show _ ≤ 7293034; omega⟩ dL_law__2601) (fun H locs X => ?_)
      refine lv_istore (lv' := [(6, .int r2601), (5, .int r2575), (0, .ref b), (1, .ref (gB E + 0)), (2, .ref (gB E + 399)), (3, .ref (gB E + 411)), (4, .int i)]) C.1 C.2.1 dL_law__2604 hl (by decide) rfl (fun ls hl => ?_)
      refine lv_aload_n C.1 C.2.1 dL_law__2606 rfl (lv_at hl 4 rfl) ?_
      obtain ⟨r2607, e2607, h⟩ := bnd h
      refine afI X (runV C G X q_X12_thrown k_1722 k_1723 k_1721 (rcX12 G X kd_399) (c_X12_thrown l E e2607) rfl hl.1 rfl (Nat.le_of_ble_eq_true rfl) ⟨Nat.le_of_ble_eq_true rfl, Nat.le_of_ble_eq_true rfl⟩ ⟨by show _ ≤ 601024; omega, by show _ ≤ 7293034; omega⟩ dL_law__2607) (fun H locs X => ?_)
      refine lv_iload C.1 C.2.1 dL_law__2610 (lv_at hl 1 rfl) ?_
      refine lv_icmp_eq (tgt := 2617) C.1 C.2.1 dL_law__2612 (by decide) (fun c2612 => ?_) (fun c2612 => ?_)
      · replace h := ipos c2612 h
        refine lv_iload C.1 C.2.1 dL_law__2617 (lv_at hl 1 rfl) ?_
        refine lv_if_ne (tgt := 2634) C.1 C.2.1 dL_law__2619 (by decide) (fun c2619 => ?_) (fun c2619 => ?_)
        · replace h := ineg c2619 h
          refine lv_goto (tgt := 2792) C.1 C.2.1 dL_law__2634 (by decide) ?_
          cases h
          refine W.widen (k := cells + 4) (n := slots + 24) (by omega) (by omega) ?_
          exact kk H locs ls (lw_sub hl (by simp [LwL])) X
        · replace h := ipos c2619 h
          refine lv_aload_n C.1 C.2.1 dL_law__2622 rfl (lv_at hl 5 rfl) ?_
          refine lv_iconst (v := 0) C.1 C.2.1 dL_law__2623 (by decide) ?_
          refine ald_o C G X (k := 411) kd411 in411 dL_law__2624 ?_
          refine lv_iload C.1 C.2.1 dL_law__2625 (lv_at hl 0 rfl) ?_
          refine lv_i2l C.1 C.2.1 dL_law__2627 rfl ?_
          refine W.lcmp C.1 C.2.1 dL_law__2628 ?_
          refine lv_if_eq (tgt := 2634) C.1 C.2.1 dL_law__2629 (by decide) (fun c2629 => ?_) (fun c2629 => ?_)
          · replace h := ipos c2629 h
            refine lv_goto (tgt := 2792) C.1 C.2.1 dL_law__2634 (by decide) ?_
            cases h
            refine W.widen (k := cells + 4) (n := slots + 24) (by omega) (by omega) ?_
            exact kk H locs ls (lw_sub hl (by simp [LwL])) X
          · replace h := ineg c2629 h
            refine lv_iconst (v := 0) C.1 C.2.1 dL_law__2632 (by decide) ?_
            cases h
      · replace h := ineg c2612 h
        refine lv_iconst (v := 0) C.1 C.2.1 dL_law__2615 (by decide) ?_
        cases h
    · replace h := ineg c2593 h
      refine lv_iconst (v := 1) C.1 C.2.1 dL_law__2596 (by decide) ?_
      refine lv_goto (tgt := 2601) C.1 C.2.1 dL_law__2597 (by decide) ?_
      obtain ⟨r2601, σ2601, e2601, h⟩ := bnd2 h
      refine afI (r0 := r2601) (σ' := σ2601) X (runV C G X q_X12_led k_2261 k_2262 k_2260 (rcX12 G X kd_399) (c_X12_led l E e2601) rfl hl.1 rfl (Nat.le_of_ble_eq_true rfl) ⟨Nat.le_of_ble_eq_true rfl, Nat.le_of_ble_eq_true rfl⟩ ⟨by show _ ≤ 601024; omega, by show _ ≤ 7293034; omega⟩ dL_law__2601) (fun H locs X => ?_)
      refine lv_istore (lv' := [(6, .int r2601), (5, .int r2575), (0, .ref b), (1, .ref (gB E + 0)), (2, .ref (gB E + 399)), (3, .ref (gB E + 411)), (4, .int i)]) C.1 C.2.1 dL_law__2604 hl (by decide) rfl (fun ls hl => ?_)
      refine lv_aload_n C.1 C.2.1 dL_law__2606 rfl (lv_at hl 4 rfl) ?_
      obtain ⟨r2607, e2607, h⟩ := bnd h
      refine afI X (runV C G X q_X12_thrown k_1722 k_1723 k_1721 (rcX12 G X kd_399) (c_X12_thrown l E e2607) rfl hl.1 rfl (Nat.le_of_ble_eq_true rfl) ⟨Nat.le_of_ble_eq_true rfl, Nat.le_of_ble_eq_true rfl⟩ ⟨by show _ ≤ 601024; omega, by show _ ≤ 7293034; omega⟩ dL_law__2607) (fun H locs X => ?_)
      refine lv_iload C.1 C.2.1 dL_law__2610 (lv_at hl 1 rfl) ?_
      refine lv_icmp_eq (tgt := 2617) C.1 C.2.1 dL_law__2612 (by decide) (fun c2612 => ?_) (fun c2612 => ?_)
      · replace h := ipos c2612 h
        refine lv_iload C.1 C.2.1 dL_law__2617 (lv_at hl 1 rfl) ?_
        refine lv_if_ne (tgt := 2634) C.1 C.2.1 dL_law__2619 (by decide) (fun c2619 => ?_) (fun c2619 => ?_)
        · replace h := ineg c2619 h
          refine lv_goto (tgt := 2792) C.1 C.2.1 dL_law__2634 (by decide) ?_
          cases h
          refine W.widen (k := cells + 4) (n := slots + 24) (by omega) (by omega) ?_
          exact kk H locs ls (lw_sub hl (by simp [LwL])) X
        · replace h := ipos c2619 h
          refine lv_aload_n C.1 C.2.1 dL_law__2622 rfl (lv_at hl 5 rfl) ?_
          refine lv_iconst (v := 0) C.1 C.2.1 dL_law__2623 (by decide) ?_
          refine ald_o C G X (k := 411) kd411 in411 dL_law__2624 ?_
          refine lv_iload C.1 C.2.1 dL_law__2625 (lv_at hl 0 rfl) ?_
          refine lv_i2l C.1 C.2.1 dL_law__2627 rfl ?_
          refine W.lcmp C.1 C.2.1 dL_law__2628 ?_
          refine lv_if_eq (tgt := 2634) C.1 C.2.1 dL_law__2629 (by decide) (fun c2629 => ?_) (fun c2629 => ?_)
          · replace h := ipos c2629 h
            refine lv_goto (tgt := 2792) C.1 C.2.1 dL_law__2634 (by decide) ?_
            cases h
            refine W.widen (k := cells + 4) (n := slots + 24) (by omega) (by omega) ?_
            exact kk H locs ls (lw_sub hl (by simp [LwL])) X
          · replace h := ineg c2629 h
            refine lv_iconst (v := 0) C.1 C.2.1 dL_law__2632 (by decide) ?_
            cases h
      · replace h := ineg c2612 h
        refine lv_iconst (v := 0) C.1 C.2.1 dL_law__2615 (by decide) ?_
        cases h
  · replace h := ineg c2566 h
    refine lv_iconst (v := 1) C.1 C.2.1 dL_law__2569 (by decide) ?_
    refine lv_goto (tgt := 2574) C.1 C.2.1 dL_law__2570 (by decide) ?_
    refine lv_aload_n C.1 C.2.1 dL_law__2574 rfl (lv_at hl 3 rfl) ?_
    obtain ⟨r2575, σ2575, e2575, h⟩ := bnd2 h
    refine afW (r0 := r2575) (σ' := σ2575) X (runSW_ (n := 4) C G X k_1628 k_103 (by decide +kernel) k_1627 k_1626 (c_L_led l E hT e2575) rfl hl.1 rfl (Nat.le_of_ble_eq_true rfl) ⟨Nat.le_of_ble_eq_true rfl, Nat.le_of_ble_eq_true rfl⟩ ⟨by show _ ≤ 601024; omega, by show _ ≤ 7293034; omega⟩ dL_law__2575) (fun H locs X => ?_)
    refine lv_istore (lv' := [(5, .int r2575), (0, .ref b), (1, .ref (gB E + 0)), (2, .ref (gB E + 399)), (3, .ref (gB E + 411)), (4, .int i)]) C.1 C.2.1 dL_law__2578 hl (by decide) rfl (fun ls hl => ?_)
    refine lv_aload_n C.1 C.2.1 dL_law__2580 rfl (lv_at hl 3 rfl) ?_
    refine lv_aload_n C.1 C.2.1 dL_law__2581 rfl (lv_at hl 1 rfl) ?_
    refine lv_iload C.1 C.2.1 dL_law__2582 (lv_at hl 5 rfl) ?_
    refine lv_iconst (v := 1) C.1 C.2.1 dL_law__2584 (by decide) ?_
    refine lv_iadd C.1 C.2.1 dL_law__2585 ?_
    refine xld C X hX hb hbA q1 dL_law__2586 ?_
    refine lv_aload_n C.1 C.2.1 dL_law__2587 rfl (lv_at hl 1 rfl) ?_
    refine lv_iload C.1 C.2.1 dL_law__2588 (lv_at hl 5 rfl) ?_
    refine lv_iconst (v := 2) C.1 C.2.1 dL_law__2590 (by decide) ?_
    refine lv_iadd C.1 C.2.1 dL_law__2591 ?_
    refine xld C X hX hb hbA q2 dL_law__2592 ?_
    refine lv_if_eq (tgt := 2600) C.1 C.2.1 dL_law__2593 (by decide) (fun c2593 => ?_) (fun c2593 => ?_)
    · replace h := ipos c2593 h
      refine lv_iconst (v := 0) C.1 C.2.1 dL_law__2600 (by decide) ?_
      obtain ⟨r2601, σ2601, e2601, h⟩ := bnd2 h
      refine afI (r0 := r2601) (σ' := σ2601) X (runV C G X q_X12_led k_2261 k_2262 k_2260 (rcX12 G X kd_399) (c_X12_led l E e2601) rfl hl.1 rfl (Nat.le_of_ble_eq_true rfl) ⟨Nat.le_of_ble_eq_true rfl, Nat.le_of_ble_eq_true rfl⟩ ⟨by show _ ≤ 601024; omega, by show _ ≤ 7293034; omega⟩ dL_law__2601) (fun H locs X => ?_)
      refine lv_istore (lv' := [(6, .int r2601), (5, .int r2575), (0, .ref b), (1, .ref (gB E + 0)), (2, .ref (gB E + 399)), (3, .ref (gB E + 411)), (4, .int i)]) C.1 C.2.1 dL_law__2604 hl (by decide) rfl (fun ls hl => ?_)
      refine lv_aload_n C.1 C.2.1 dL_law__2606 rfl (lv_at hl 4 rfl) ?_
      obtain ⟨r2607, e2607, h⟩ := bnd h
      refine afI X (runV C G X q_X12_thrown k_1722 k_1723 k_1721 (rcX12 G X kd_399) (c_X12_thrown l E e2607) rfl hl.1 rfl (Nat.le_of_ble_eq_true rfl) ⟨Nat.le_of_ble_eq_true rfl, Nat.le_of_ble_eq_true rfl⟩ ⟨by show _ ≤ 601024; omega, by show _ ≤ 7293034; omega⟩ dL_law__2607) (fun H locs X => ?_)
      refine lv_iload C.1 C.2.1 dL_law__2610 (lv_at hl 1 rfl) ?_
      refine lv_icmp_eq (tgt := 2617) C.1 C.2.1 dL_law__2612 (by decide) (fun c2612 => ?_) (fun c2612 => ?_)
      · replace h := ipos c2612 h
        refine lv_iload C.1 C.2.1 dL_law__2617 (lv_at hl 1 rfl) ?_
        refine lv_if_ne (tgt := 2634) C.1 C.2.1 dL_law__2619 (by decide) (fun c2619 => ?_) (fun c2619 => ?_)
        · replace h := ineg c2619 h
          refine lv_goto (tgt := 2792) C.1 C.2.1 dL_law__2634 (by decide) ?_
          cases h
          refine W.widen (k := cells + 4) (n := slots + 24) (by omega) (by omega) ?_
          exact kk H locs ls (lw_sub hl (by simp [LwL])) X
        · replace h := ipos c2619 h
          refine lv_aload_n C.1 C.2.1 dL_law__2622 rfl (lv_at hl 5 rfl) ?_
          refine lv_iconst (v := 0) C.1 C.2.1 dL_law__2623 (by decide) ?_
          refine ald_o C G X (k := 411) kd411 in411 dL_law__2624 ?_
          refine lv_iload C.1 C.2.1 dL_law__2625 (lv_at hl 0 rfl) ?_
          refine lv_i2l C.1 C.2.1 dL_law__2627 rfl ?_
          refine W.lcmp C.1 C.2.1 dL_law__2628 ?_
          refine lv_if_eq (tgt := 2634) C.1 C.2.1 dL_law__2629 (by decide) (fun c2629 => ?_) (fun c2629 => ?_)
          · replace h := ipos c2629 h
            refine lv_goto (tgt := 2792) C.1 C.2.1 dL_law__2634 (by decide) ?_
            cases h
            refine W.widen (k := cells + 4) (n := slots + 24) (by omega) (by omega) ?_
            exact kk H locs ls (lw_sub hl (by simp [LwL])) X
          · replace h := ineg c2629 h
            refine lv_iconst (v := 0) C.1 C.2.1 dL_law__2632 (by decide) ?_
            cases h
      · replace h := ineg c2612 h
        refine lv_iconst (v := 0) C.1 C.2.1 dL_law__2615 (by decide) ?_
        cases h
    · replace h := ineg c2593 h
      refine lv_iconst (v := 1) C.1 C.2.1 dL_law__2596 (by decide) ?_
      refine lv_goto (tgt := 2601) C.1 C.2.1 dL_law__2597 (by decide) ?_
      obtain ⟨r2601, σ2601, e2601, h⟩ := bnd2 h
      refine afI (r0 := r2601) (σ' := σ2601) X (runV C G X q_X12_led k_2261 k_2262 k_2260 (rcX12 G X kd_399) (c_X12_led l E e2601) rfl hl.1 rfl (Nat.le_of_ble_eq_true rfl) ⟨Nat.le_of_ble_eq_true rfl, Nat.le_of_ble_eq_true rfl⟩ ⟨by show _ ≤ 601024; omega, by show _ ≤ 7293034; omega⟩ dL_law__2601) (fun H locs X => ?_)
      refine lv_istore (lv' := [(6, .int r2601), (5, .int r2575), (0, .ref b), (1, .ref (gB E + 0)), (2, .ref (gB E + 399)), (3, .ref (gB E + 411)), (4, .int i)]) C.1 C.2.1 dL_law__2604 hl (by decide) rfl (fun ls hl => ?_)
      refine lv_aload_n C.1 C.2.1 dL_law__2606 rfl (lv_at hl 4 rfl) ?_
      obtain ⟨r2607, e2607, h⟩ := bnd h
      refine afI X (runV C G X q_X12_thrown k_1722 k_1723 k_1721 (rcX12 G X kd_399) (c_X12_thrown l E e2607) rfl hl.1 rfl (Nat.le_of_ble_eq_true rfl) ⟨Nat.le_of_ble_eq_true rfl, Nat.le_of_ble_eq_true rfl⟩ ⟨by show _ ≤ 601024; omega, by show _ ≤ 7293034; omega⟩ dL_law__2607) (fun H locs X => ?_)
      refine lv_iload C.1 C.2.1 dL_law__2610 (lv_at hl 1 rfl) ?_
      refine lv_icmp_eq (tgt := 2617) C.1 C.2.1 dL_law__2612 (by decide) (fun c2612 => ?_) (fun c2612 => ?_)
      · replace h := ipos c2612 h
        refine lv_iload C.1 C.2.1 dL_law__2617 (lv_at hl 1 rfl) ?_
        refine lv_if_ne (tgt := 2634) C.1 C.2.1 dL_law__2619 (by decide) (fun c2619 => ?_) (fun c2619 => ?_)
        · replace h := ineg c2619 h
          refine lv_goto (tgt := 2792) C.1 C.2.1 dL_law__2634 (by decide) ?_
          cases h
          refine W.widen (k := cells + 4) (n := slots + 24) (by omega) (by omega) ?_
          exact kk H locs ls (lw_sub hl (by simp [LwL])) X
        · replace h := ipos c2619 h
          refine lv_aload_n C.1 C.2.1 dL_law__2622 rfl (lv_at hl 5 rfl) ?_
          refine lv_iconst (v := 0) C.1 C.2.1 dL_law__2623 (by decide) ?_
          refine ald_o C G X (k := 411) kd411 in411 dL_law__2624 ?_
          refine lv_iload C.1 C.2.1 dL_law__2625 (lv_at hl 0 rfl) ?_
          refine lv_i2l C.1 C.2.1 dL_law__2627 rfl ?_
          refine W.lcmp C.1 C.2.1 dL_law__2628 ?_
          refine lv_if_eq (tgt := 2634) C.1 C.2.1 dL_law__2629 (by decide) (fun c2629 => ?_) (fun c2629 => ?_)
          · replace h := ipos c2629 h
            refine lv_goto (tgt := 2792) C.1 C.2.1 dL_law__2634 (by decide) ?_
            cases h
            refine W.widen (k := cells + 4) (n := slots + 24) (by omega) (by omega) ?_
            exact kk H locs ls (lw_sub hl (by simp [LwL])) X
          · replace h := ineg c2629 h
            refine lv_iconst (v := 0) C.1 C.2.1 dL_law__2632 (by decide) ?_
            cases h
      · replace h := ineg c2612 h
        refine lv_iconst (v := 0) C.1 C.2.1 dL_law__2615 (by decide) ?_
        cases h
theorem lwc_48 (C : Cx p s m args meth c cL_law_ (some .boolean) 7 "PaneStreetLaw") (G : Gf E s) (hT : l.stackTraces = false) {x1 x2 x3 x4 x5 : Int32} (h : lw_48 x1 x2 x3 x4 x5 σ = some (true, σ')) (X : Hx E σ s H locs) (hl : lv_has ls 7 (LwL E b i)) (hX : va_X b L xs s s.heap) (hb : b < s.heap.size) (hbA : ¬ Fr E b) (q1 : LwX L xs (i + 1) x1) (q2 : LwX L xs (i + 2) x2) (q3 : LwX L xs (i + 3) x3) (q4 : LwX L xs (i + 4) x4) (q5 : LwX L xs (i + 5) x5) (hcc : cells ≤ 4000) (hss : slots ≤ 100000)
    (kk : ∀ (H1 : Heap) (locs1 : List Loc) (ls1 : Array Slot), lv_has ls1 7 (LwL E b i) → Hx E σ' s H1 locs1 → W p l e room_1 s m args below meth c H1 locs1 (cells + 4) (slots + 24) Q (F0 m 2792 ls1 [])) : W p l e room_1 s m args below meth c H locs cells slots Q (F0 m 2637 ls []) := by
  unfold lw_48 at h
  unfold LwL at hl
  refine lv_aload_n C.1 C.2.1 dL_law__2637 rfl (lv_at hl 1 rfl) ?_
  refine lv_aload_n C.1 C.2.1 dL_law__2638 rfl (lv_at hl 0 rfl) ?_
  refine lv_iload C.1 C.2.1 dL_law__2639 (lv_at hl 4 rfl) ?_
  refine lv_iconst (v := 1) C.1 C.2.1 dL_law__2641 (by decide) ?_
  refine lv_iadd C.1 C.2.1 dL_law__2642 ?_
  refine xld C X hX hb hbA q1 dL_law__2643 ?_
  refine lv_aload_n C.1 C.2.1 dL_law__2644 rfl (lv_at hl 0 rfl) ?_
  refine lv_iload C.1 C.2.1 dL_law__2645 (lv_at hl 4 rfl) ?_
  refine lv_iconst (v := 2) C.1 C.2.1 dL_law__2647 (by decide) ?_
  refine lv_iadd C.1 C.2.1 dL_law__2648 ?_
  refine xld C X hX hb hbA q2 dL_law__2649 ?_
  refine lv_aload_n C.1 C.2.1 dL_law__2650 rfl (lv_at hl 3 rfl) ?_
  obtain ⟨r2651, σ2651, e2651, h⟩ := bnd2 h
  refine afW (r0 := r2651) (σ' := σ2651) X (runSW_ (n := 4) C G X k_1639 k_103 (by decide +kernel) k_1638 k_1637 (c_L_log l E hT e2651) rfl hl.1 rfl (Nat.le_of_ble_eq_true rfl) ⟨Nat.le_of_ble_eq_true rfl, Nat.le_of_ble_eq_true rfl⟩ ⟨by show _ ≤ 601024; omega, by show _ ≤ 7293034; omega⟩ dL_law__2651) (fun H locs X => ?_)
  refine lv_istore (lv' := [(5, .int r2651), (0, .ref b), (1, .ref (gB E + 0)), (2, .ref (gB E + 399)), (3, .ref (gB E + 411)), (4, .int i)]) C.1 C.2.1 dL_law__2654 hl (by decide) rfl (fun ls hl => ?_)
  refine lv_aload_n C.1 C.2.1 dL_law__2656 rfl (lv_at hl 3 rfl) ?_
  refine lv_aload_n C.1 C.2.1 dL_law__2657 rfl (lv_at hl 1 rfl) ?_
  refine lv_iload C.1 C.2.1 dL_law__2658 (lv_at hl 5 rfl) ?_
  refine lv_iconst (v := 1) C.1 C.2.1 dL_law__2660 (by decide) ?_
  refine lv_iadd C.1 C.2.1 dL_law__2661 ?_
  refine xld C X hX hb hbA q1 dL_law__2662 ?_
  refine lv_aload_n C.1 C.2.1 dL_law__2663 rfl (lv_at hl 1 rfl) ?_
  refine lv_iload C.1 C.2.1 dL_law__2664 (lv_at hl 5 rfl) ?_
  refine lv_iconst (v := 2) C.1 C.2.1 dL_law__2666 (by decide) ?_
  refine lv_iadd C.1 C.2.1 dL_law__2667 ?_
  refine xld C X hX hb hbA q2 dL_law__2668 ?_
  obtain ⟨r2669, σ2669, e2669, h⟩ := bnd2 h
  refine afI (r0 := r2669) (σ' := σ2669) X (runV C G X q_X12_log k_2269 k_2270 k_2268 (rcX12 G X kd_399) (c_X12_log l E e2669) rfl hl.1 rfl (Nat.le_of_ble_eq_true rfl) ⟨Nat.le_of_ble_eq_true rfl, Nat.le_of_ble_eq_true rfl⟩ ⟨by show _ ≤ 601024; omega, by show _ ≤ 7293034; omega⟩ dL_law__2669) (fun H locs X => ?_)
  refine lv_istore (lv' := [(6, .int r2669), (5, .int r2651), (0, .ref b), (1, .ref (gB E + 0)), (2, .ref (gB E + 399)), (3, .ref (gB E + 411)), (4, .int i)]) C.1 C.2.1 dL_law__2672 hl (by decide) rfl (fun ls hl => ?_)
  refine lv_aload_n C.1 C.2.1 dL_law__2674 rfl (lv_at hl 4 rfl) ?_
  obtain ⟨r2675, e2675, h⟩ := bnd h
  refine afI X (runV C G X q_X12_thrown k_1722 k_1723 k_1721 (rcX12 G X kd_399) (c_X12_thrown l E e2675) rfl hl.1 rfl (Nat.le_of_ble_eq_true rfl) ⟨Nat.le_of_ble_eq_true rfl, Nat.le_of_ble_eq_true rfl⟩ ⟨by show _ ≤ 601024; omega, by show _ ≤ 7293034; omega⟩ dL_law__2675) (fun H locs X => ?_)
  refine lv_iload C.1 C.2.1 dL_law__2678 (lv_at hl 1 rfl) ?_
  refine lv_icmp_eq (tgt := 2685) C.1 C.2.1 dL_law__2680 (by decide) (fun c2680 => ?_) (fun c2680 => ?_)
  · replace h := ipos c2680 h
    refine lv_iload C.1 C.2.1 dL_law__2685 (lv_at hl 1 rfl) ?_
    refine lv_if_ne (tgt := 2702) C.1 C.2.1 dL_law__2687 (by decide) (fun c2687 => ?_) (fun c2687 => ?_)
    · replace h := ineg c2687 h
      refine lv_goto (tgt := 2792) C.1 C.2.1 dL_law__2702 (by decide) ?_
      cases h
      refine W.widen (k := cells + 4) (n := slots + 24) (by omega) (by omega) ?_
      exact kk H locs ls (lw_sub hl (by simp [LwL])) X
    · replace h := ipos c2687 h
      refine lv_aload_n C.1 C.2.1 dL_law__2690 rfl (lv_at hl 5 rfl) ?_
      refine lv_iconst (v := 0) C.1 C.2.1 dL_law__2691 (by decide) ?_
      refine ald_o C G X (k := 411) kd411 in411 dL_law__2692 ?_
      refine lv_iload C.1 C.2.1 dL_law__2693 (lv_at hl 0 rfl) ?_
      refine lv_i2l C.1 C.2.1 dL_law__2695 rfl ?_
      refine W.lcmp C.1 C.2.1 dL_law__2696 ?_
      refine lv_if_eq (tgt := 2702) C.1 C.2.1 dL_law__2697 (by decide) (fun c2697 => ?_) (fun c2697 => ?_)
      · replace h := ipos c2697 h
        refine lv_goto (tgt := 2792) C.1 C.2.1 dL_law__2702 (by decide) ?_
        cases h
        refine W.widen (k := cells + 4) (n := slots + 24) (by omega) (by omega) ?_
        exact kk H locs ls (lw_sub hl (by simp [LwL])) X
      · replace h := ineg c2697 h
        refine lv_iconst (v := 0) C.1 C.2.1 dL_law__2700 (by decide) ?_
        cases h
  · replace h := ineg c2680 h
    refine lv_iconst (v := 0) C.1 C.2.1 dL_law__2683 (by decide) ?_
    cases h
theorem lwc_49 (C : Cx p s m args meth c cL_law_ (some .boolean) 7 "PaneStreetLaw") (G : Gf E s) (hT : l.stackTraces = false) {x1 x2 x3 x4 x5 : Int32} (h : lw_49 x1 x2 x3 x4 x5 σ = some (true, σ')) (X : Hx E σ s H locs) (hl : lv_has ls 7 (LwL E b i)) (hX : va_X b L xs s s.heap) (hb : b < s.heap.size) (hbA : ¬ Fr E b) (q1 : LwX L xs (i + 1) x1) (q2 : LwX L xs (i + 2) x2) (q3 : LwX L xs (i + 3) x3) (q4 : LwX L xs (i + 4) x4) (q5 : LwX L xs (i + 5) x5) (hcc : cells ≤ 4000) (hss : slots ≤ 100000)
    (kk : ∀ (H1 : Heap) (locs1 : List Loc) (ls1 : Array Slot), lv_has ls1 7 (LwL E b i) → Hx E σ' s H1 locs1 → W p l e room_1 s m args below meth c H1 locs1 (cells + 4) (slots + 24) Q (F0 m 2792 ls1 [])) : W p l e room_1 s m args below meth c H locs cells slots Q (F0 m 2705 ls []) := by
  unfold lw_49 at h
  unfold LwL at hl
  refine lv_aload_n C.1 C.2.1 dL_law__2705 rfl (lv_at hl 1 rfl) ?_
  refine lv_aload_n C.1 C.2.1 dL_law__2706 rfl (lv_at hl 0 rfl) ?_
  refine lv_iload C.1 C.2.1 dL_law__2707 (lv_at hl 4 rfl) ?_
  refine lv_iconst (v := 1) C.1 C.2.1 dL_law__2709 (by decide) ?_
  refine lv_iadd C.1 C.2.1 dL_law__2710 ?_
  refine xld C X hX hb hbA q1 dL_law__2711 ?_
  obtain ⟨r2712, σ2712, e2712, h⟩ := bnd2 h
  refine afI (r0 := r2712) (σ' := σ2712) X (runV C G X q_X11_seed k_739 k_740 k_738 (rcX11 G X kd_0) (c_X11_seed l E e2712) rfl hl.1 rfl (Nat.le_of_ble_eq_true rfl) ⟨Nat.le_of_ble_eq_true rfl, Nat.le_of_ble_eq_true rfl⟩ ⟨by show _ ≤ 601024; omega, by show _ ≤ 7293034; omega⟩ dL_law__2712) (fun H locs X => ?_)
  refine lv_aload_n C.1 C.2.1 dL_law__2715 rfl (lv_at hl 2 rfl) ?_
  refine lv_aload_n C.1 C.2.1 dL_law__2716 rfl (lv_at hl 0 rfl) ?_
  refine lv_iload C.1 C.2.1 dL_law__2717 (lv_at hl 4 rfl) ?_
  refine lv_iconst (v := 1) C.1 C.2.1 dL_law__2719 (by decide) ?_
  refine lv_iadd C.1 C.2.1 dL_law__2720 ?_
  refine xld C X hX hb hbA q1 dL_law__2721 ?_
  obtain ⟨r2722, σ2722, e2722, h⟩ := bnd2 h
  refine afI (r0 := r2722) (σ' := σ2722) X (runV C G X q_X12_seed k_2273 k_2274 k_2272 (rcX12 G X kd_399) (c_X12_seed l E e2722) rfl hl.1 rfl (Nat.le_of_ble_eq_true rfl) ⟨Nat.le_of_ble_eq_true rfl, Nat.le_of_ble_eq_true rfl⟩ ⟨by show _ ≤ 601024; omega, by show _ ≤ 7293034; omega⟩ dL_law__2722) (fun H locs X => ?_)
  refine lv_icmp_eq (tgt := 2792) C.1 C.2.1 dL_law__2725 (by decide) (fun c2725 => ?_) (fun c2725 => ?_)
  · replace h := ipos c2725 h
    cases h
    refine W.widen (k := cells + 4) (n := slots + 24) (by omega) (by omega) ?_
    exact kk H locs ls (lw_sub hl (by simp [LwL])) X
  · replace h := ineg c2725 h
    refine lv_iconst (v := 0) C.1 C.2.1 dL_law__2728 (by decide) ?_
    cases h
theorem lwc_50 (C : Cx p s m args meth c cL_law_ (some .boolean) 7 "PaneStreetLaw") (G : Gf E s) (hT : l.stackTraces = false) {x1 x2 x3 x4 x5 : Int32} (h : lw_50 x1 x2 x3 x4 x5 σ = some (true, σ')) (X : Hx E σ s H locs) (hl : lv_has ls 7 (LwL E b i)) (hX : va_X b L xs s s.heap) (hb : b < s.heap.size) (hbA : ¬ Fr E b) (q1 : LwX L xs (i + 1) x1) (q2 : LwX L xs (i + 2) x2) (q3 : LwX L xs (i + 3) x3) (q4 : LwX L xs (i + 4) x4) (q5 : LwX L xs (i + 5) x5) (hcc : cells ≤ 4000) (hss : slots ≤ 100000)
    (kk : ∀ (H1 : Heap) (locs1 : List Loc) (ls1 : Array Slot), lv_has ls1 7 (LwL E b i) → Hx E σ' s H1 locs1 → W p l e room_1 s m args below meth c H1 locs1 (cells + 4) (slots + 24) Q (F0 m 2792 ls1 [])) : W p l e room_1 s m args below meth c H locs cells slots Q (F0 m 2730 ls []) := by
  unfold lw_50 at h
  unfold LwL at hl
  refine lv_aload_n C.1 C.2.1 dL_law__2730 rfl (lv_at hl 1 rfl) ?_
  obtain ⟨r2731, σ2731, e2731, h⟩ := bnd2 h
  refine afI (r0 := r2731) (σ' := σ2731) X (runV C G X q_X11_undo k_743 k_744 k_742 (rcX11 G X kd_0) (c_X11_undo l E e2731) rfl hl.1 rfl (Nat.le_of_ble_eq_true rfl) ⟨Nat.le_of_ble_eq_true rfl, Nat.le_of_ble_eq_true rfl⟩ ⟨by show _ ≤ 601024; omega, by show _ ≤ 7293034; omega⟩ dL_law__2731) (fun H locs X => ?_)
  refine lv_aload_n C.1 C.2.1 dL_law__2734 rfl (lv_at hl 2 rfl) ?_
  obtain ⟨r2735, σ2735, e2735, h⟩ := bnd2 h
  refine afI (r0 := r2735) (σ' := σ2735) X (runV C G X q_X12_undo k_2277 k_2278 k_2276 (rcX12 G X kd_399) (c_X12_undo l E e2735) rfl hl.1 rfl (Nat.le_of_ble_eq_true rfl) ⟨Nat.le_of_ble_eq_true rfl, Nat.le_of_ble_eq_true rfl⟩ ⟨by show _ ≤ 601024; omega, by show _ ≤ 7293034; omega⟩ dL_law__2735) (fun H locs X => ?_)
  refine lv_icmp_eq (tgt := 2792) C.1 C.2.1 dL_law__2738 (by decide) (fun c2738 => ?_) (fun c2738 => ?_)
  · replace h := ipos c2738 h
    cases h
    refine W.widen (k := cells + 4) (n := slots + 24) (by omega) (by omega) ?_
    exact kk H locs ls (lw_sub hl (by simp [LwL])) X
  · replace h := ineg c2738 h
    refine lv_iconst (v := 0) C.1 C.2.1 dL_law__2741 (by decide) ?_
    cases h
theorem lwc_51 (C : Cx p s m args meth c cL_law_ (some .boolean) 7 "PaneStreetLaw") (G : Gf E s) (hT : l.stackTraces = false) {x1 x2 x3 x4 x5 : Int32} (h : lw_51 x1 x2 x3 x4 x5 σ = some (true, σ')) (X : Hx E σ s H locs) (hl : lv_has ls 7 (LwL E b i)) (hX : va_X b L xs s s.heap) (hb : b < s.heap.size) (hbA : ¬ Fr E b) (q1 : LwX L xs (i + 1) x1) (q2 : LwX L xs (i + 2) x2) (q3 : LwX L xs (i + 3) x3) (q4 : LwX L xs (i + 4) x4) (q5 : LwX L xs (i + 5) x5) (hcc : cells ≤ 4000) (hss : slots ≤ 100000)
    (kk : ∀ (H1 : Heap) (locs1 : List Loc) (ls1 : Array Slot), lv_has ls1 7 (LwL E b i) → Hx E σ' s H1 locs1 → W p l e room_1 s m args below meth c H1 locs1 (cells + 4) (slots + 24) Q (F0 m 2792 ls1 [])) : W p l e room_1 s m args below meth c H locs cells slots Q (F0 m 2743 ls []) := by
  unfold lw_51 at h
  unfold LwL at hl
  refine lv_aload_n C.1 C.2.1 dL_law__2743 rfl (lv_at hl 1 rfl) ?_
  obtain ⟨σ2744, e2744, h⟩ := bnd h
  refine afV X (runV C G X q_X11_image k_756 k_757 k_755 (rcX11 G X kd_0) (c_X11_image l E e2744) rfl hl.1 rfl (Nat.le_of_ble_eq_true rfl) ⟨Nat.le_of_ble_eq_true rfl, Nat.le_of_ble_eq_true rfl⟩ ⟨by show _ ≤ 601024; omega, by show _ ≤ 7293034; omega⟩ dL_law__2744) (fun H locs X => ?_)
  refine lv_aload_n C.1 C.2.1 dL_law__2747 rfl (lv_at hl 2 rfl) ?_
  obtain ⟨σ2748, e2748, h⟩ := bnd h
  refine afV X (runV C G X q_X12_image k_2281 k_2282 k_2280 (rcX12 G X kd_399) (c_X12_image l E e2748) rfl hl.1 rfl (Nat.le_of_ble_eq_true rfl) ⟨Nat.le_of_ble_eq_true rfl, Nat.le_of_ble_eq_true rfl⟩ ⟨by show _ ≤ 601024; omega, by show _ ≤ 7293034; omega⟩ dL_law__2748) (fun H locs X => ?_)
  refine lv_goto (tgt := 2792) C.1 C.2.1 dL_law__2751 (by decide) ?_
  cases h
  refine W.widen (k := cells + 4) (n := slots + 24) (by omega) (by omega) ?_
  exact kk H locs ls (lw_sub hl (by simp [LwL])) X
theorem lwc_52 (C : Cx p s m args meth c cL_law_ (some .boolean) 7 "PaneStreetLaw") (G : Gf E s) (hT : l.stackTraces = false) {x1 x2 x3 x4 x5 : Int32} (h : lw_52 x1 x2 x3 x4 x5 σ = some (true, σ')) (X : Hx E σ s H locs) (hl : lv_has ls 7 (LwL E b i)) (hX : va_X b L xs s s.heap) (hb : b < s.heap.size) (hbA : ¬ Fr E b) (q1 : LwX L xs (i + 1) x1) (q2 : LwX L xs (i + 2) x2) (q3 : LwX L xs (i + 3) x3) (q4 : LwX L xs (i + 4) x4) (q5 : LwX L xs (i + 5) x5) (hcc : cells ≤ 4000) (hss : slots ≤ 100000)
    (kk : ∀ (H1 : Heap) (locs1 : List Loc) (ls1 : Array Slot), lv_has ls1 7 (LwL E b i) → Hx E σ' s H1 locs1 → W p l e room_1 s m args below meth c H1 locs1 (cells + 4) (slots + 24) Q (F0 m 2792 ls1 [])) : W p l e room_1 s m args below meth c H locs cells slots Q (F0 m 2754 ls []) := by
  unfold lw_52 at h
  unfold LwL at hl
  refine lv_aload_n C.1 C.2.1 dL_law__2754 rfl (lv_at hl 1 rfl) ?_
  obtain ⟨r2755, σ2755, e2755, h⟩ := bnd2 h
  refine afI (r0 := r2755) (σ' := σ2755) X (runV C G X q_X11_back k_766 k_767 k_765 (rcX11 G X kd_0) (c_X11_back l E e2755) rfl hl.1 rfl (Nat.le_of_ble_eq_true rfl) ⟨Nat.le_of_ble_eq_true rfl, Nat.le_of_ble_eq_true rfl⟩ ⟨by show _ ≤ 601024; omega, by show _ ≤ 7293034; omega⟩ dL_law__2755) (fun H locs X => ?_)
  refine lv_aload_n C.1 C.2.1 dL_law__2758 rfl (lv_at hl 2 rfl) ?_
  obtain ⟨r2759, σ2759, e2759, h⟩ := bnd2 h
  refine afI (r0 := r2759) (σ' := σ2759) X (runV C G X q_X12_back k_2285 k_2286 k_2284 (rcX12 G X kd_399) (c_X12_back l E e2759) rfl hl.1 rfl (Nat.le_of_ble_eq_true rfl) ⟨Nat.le_of_ble_eq_true rfl, Nat.le_of_ble_eq_true rfl⟩ ⟨by show _ ≤ 601024; omega, by show _ ≤ 7293034; omega⟩ dL_law__2759) (fun H locs X => ?_)
  refine lv_icmp_eq (tgt := 2792) C.1 C.2.1 dL_law__2762 (by decide) (fun c2762 => ?_) (fun c2762 => ?_)
  · replace h := ipos c2762 h
    cases h
    refine W.widen (k := cells + 4) (n := slots + 24) (by omega) (by omega) ?_
    exact kk H locs ls (lw_sub hl (by simp [LwL])) X
  · replace h := ineg c2762 h
    refine lv_iconst (v := 0) C.1 C.2.1 dL_law__2765 (by decide) ?_
    cases h
theorem lwc_53 (C : Cx p s m args meth c cL_law_ (some .boolean) 7 "PaneStreetLaw") (G : Gf E s) (hT : l.stackTraces = false) {x1 x2 x3 x4 x5 : Int32} (h : lw_53 x1 x2 x3 x4 x5 σ = some (true, σ')) (X : Hx E σ s H locs) (hl : lv_has ls 7 (LwL E b i)) (hX : va_X b L xs s s.heap) (hb : b < s.heap.size) (hbA : ¬ Fr E b) (q1 : LwX L xs (i + 1) x1) (q2 : LwX L xs (i + 2) x2) (q3 : LwX L xs (i + 3) x3) (q4 : LwX L xs (i + 4) x4) (q5 : LwX L xs (i + 5) x5) (hcc : cells ≤ 4000) (hss : slots ≤ 100000)
    (kk : ∀ (H1 : Heap) (locs1 : List Loc) (ls1 : Array Slot), lv_has ls1 7 (LwL E b i) → Hx E σ' s H1 locs1 → W p l e room_1 s m args below meth c H1 locs1 (cells + 4) (slots + 24) Q (F0 m 2792 ls1 [])) : W p l e room_1 s m args below meth c H locs cells slots Q (F0 m 2767 ls []) := by
  unfold lw_53 at h
  unfold LwL at hl
  refine lv_aload_n C.1 C.2.1 dL_law__2767 rfl (lv_at hl 1 rfl) ?_
  refine lv_aload_n C.1 C.2.1 dL_law__2768 rfl (lv_at hl 0 rfl) ?_
  refine lv_iload C.1 C.2.1 dL_law__2769 (lv_at hl 4 rfl) ?_
  refine lv_iconst (v := 1) C.1 C.2.1 dL_law__2771 (by decide) ?_
  refine lv_iadd C.1 C.2.1 dL_law__2772 ?_
  refine xld C X hX hb hbA q1 dL_law__2773 ?_
  obtain ⟨r2774, e2774, h⟩ := bnd h
  refine afI X (runV C G X q_X11_count k_774 k_775 k_773 (rcX11 G X kd_0) (c_X11_count l E e2774) rfl hl.1 rfl (Nat.le_of_ble_eq_true rfl) ⟨Nat.le_of_ble_eq_true rfl, Nat.le_of_ble_eq_true rfl⟩ ⟨by show _ ≤ 601024; omega, by show _ ≤ 7293034; omega⟩ dL_law__2774) (fun H locs X => ?_)
  refine lv_aload_n C.1 C.2.1 dL_law__2777 rfl (lv_at hl 2 rfl) ?_
  refine lv_aload_n C.1 C.2.1 dL_law__2778 rfl (lv_at hl 0 rfl) ?_
  refine lv_iload C.1 C.2.1 dL_law__2779 (lv_at hl 4 rfl) ?_
  refine lv_iconst (v := 1) C.1 C.2.1 dL_law__2781 (by decide) ?_
  refine lv_iadd C.1 C.2.1 dL_law__2782 ?_
  refine xld C X hX hb hbA q1 dL_law__2783 ?_
  obtain ⟨r2784, σ2784, e2784, h⟩ := bnd2 h
  refine afI (r0 := r2784) (σ' := σ2784) X (runV C G X q_X12_count k_2289 k_2290 k_2288 (rcX12 G X kd_399) (c_X12_count l E e2784) rfl hl.1 rfl (Nat.le_of_ble_eq_true rfl) ⟨Nat.le_of_ble_eq_true rfl, Nat.le_of_ble_eq_true rfl⟩ ⟨by show _ ≤ 601024; omega, by show _ ≤ 7293034; omega⟩ dL_law__2784) (fun H locs X => ?_)
  refine lv_icmp_eq (tgt := 2792) C.1 C.2.1 dL_law__2787 (by decide) (fun c2787 => ?_) (fun c2787 => ?_)
  · replace h := ipos c2787 h
    cases h
    refine W.widen (k := cells + 4) (n := slots + 24) (by omega) (by omega) ?_
    exact kk H locs ls (lw_sub hl (by simp [LwL])) X
  · replace h := ineg c2787 h
    refine lv_iconst (v := 0) C.1 C.2.1 dL_law__2790 (by decide) ?_
    cases h
end LAWC
