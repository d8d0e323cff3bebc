theorem k_1074 : Cond.methodLink "PaneStreetLaw" 17 ⟨"PaneStreet", "law", "()I"⟩ ∈ WU := wu 1074 (by decide +kernel) (by decide +kernel)
theorem k_1075 : Cond.instanceMethod ⟨"PaneStreet", "law", "()I"⟩ ∈ WU := wu 1075 (by decide +kernel) (by decide +kernel)
theorem k_1076 : Cond.selects "PaneStreet" ⟨"PaneStreet", "law", "()I"⟩ ⟨"PaneStreet", "law", "()I"⟩ ∈ WU := wu 1076 (by decide +kernel) (by decide +kernel)
theorem k_1156 : Cond.classLink "PaneStreetLaw" 24 "java/lang/IndexOutOfBoundsException" ∈ WU := wu 1156 (by decide +kernel) (by decide +kernel)
theorem k_1157 : Cond.classLink "PaneStreetLaw" 26 "java/util/NoSuchElementException" ∈ WU := wu 1157 (by decide +kernel) (by decide +kernel)
theorem k_1158 : Cond.methodLink "PaneStreetLaw" 20 ⟨"PaneStreet", "pane", "(II)I"⟩ ∈ WU := wu 1158 (by decide +kernel) (by decide +kernel)
theorem k_1159 : Cond.instanceMethod ⟨"PaneStreet", "pane", "(II)I"⟩ ∈ WU := wu 1159 (by decide +kernel) (by decide +kernel)
theorem k_1160 : Cond.selects "PaneStreet" ⟨"PaneStreet", "pane", "(II)I"⟩ ⟨"PaneStreet", "pane", "(II)I"⟩ ∈ WU := wu 1160 (by decide +kernel) (by decide +kernel)
theorem k_1210 : Cond.methodLink "PaneStreetLaw" 28 ⟨"PaneStreet", "walker", "(II)I"⟩ ∈ WU := wu 1210 (by decide +kernel) (by decide +kernel)
theorem k_1211 : Cond.instanceMethod ⟨"PaneStreet", "walker", "(II)I"⟩ ∈ WU := wu 1211 (by decide +kernel) (by decide +kernel)
theorem k_1212 : Cond.selects "PaneStreet" ⟨"PaneStreet", "walker", "(II)I"⟩ ⟨"PaneStreet", "walker", "(II)I"⟩ ∈ WU := wu 1212 (by decide +kernel) (by decide +kernel)
theorem k_1251 : Cond.methodLink "PaneStreetLaw" 31 ⟨"PaneStreet", "likes", "(II)I"⟩ ∈ WU := wu 1251 (by decide +kernel) (by decide +kernel)
theorem k_1252 : Cond.instanceMethod ⟨"PaneStreet", "likes", "(II)I"⟩ ∈ WU := wu 1252 (by decide +kernel) (by decide +kernel)
theorem k_1253 : Cond.selects "PaneStreet" ⟨"PaneStreet", "likes", "(II)I"⟩ ⟨"PaneStreet", "likes", "(II)I"⟩ ∈ WU := wu 1253 (by decide +kernel) (by decide +kernel)
theorem k_1264 : Cond.methodLink "PaneStreetLaw" 34 ⟨"PaneStreet", "will", "(II)I"⟩ ∈ WU := wu 1264 (by decide +kernel) (by decide +kernel)
theorem k_1265 : Cond.instanceMethod ⟨"PaneStreet", "will", "(II)I"⟩ ∈ WU := wu 1265 (by decide +kernel) (by decide +kernel)
theorem k_1266 : Cond.selects "PaneStreet" ⟨"PaneStreet", "will", "(II)I"⟩ ⟨"PaneStreet", "will", "(II)I"⟩ ∈ WU := wu 1266 (by decide +kernel) (by decide +kernel)
theorem k_1274 : Cond.methodLink "PaneStreetLaw" 37 ⟨"PaneStreet", "lights", "(II)Z"⟩ ∈ WU := wu 1274 (by decide +kernel) (by decide +kernel)
theorem k_1275 : Cond.instanceMethod ⟨"PaneStreet", "lights", "(II)Z"⟩ ∈ WU := wu 1275 (by decide +kernel) (by decide +kernel)
theorem k_1276 : Cond.selects "PaneStreet" ⟨"PaneStreet", "lights", "(II)Z"⟩ ⟨"PaneStreet", "lights", "(II)Z"⟩ ∈ WU := wu 1276 (by decide +kernel) (by decide +kernel)
theorem k_1282 : Cond.methodLink "PaneStreetLaw" 41 ⟨"PaneStreet", "isOpen", "(II)Z"⟩ ∈ WU := wu 1282 (by decide +kernel) (by decide +kernel)
theorem k_1283 : Cond.instanceMethod ⟨"PaneStreet", "isOpen", "(II)Z"⟩ ∈ WU := wu 1283 (by decide +kernel) (by decide +kernel)
theorem k_1284 : Cond.selects "PaneStreet" ⟨"PaneStreet", "isOpen", "(II)Z"⟩ ⟨"PaneStreet", "isOpen", "(II)Z"⟩ ∈ WU := wu 1284 (by decide +kernel) (by decide +kernel)
theorem k_1298 : Cond.methodLink "PaneStreetLaw" 44 ⟨"PaneStreet", "hours", "(I)I"⟩ ∈ WU := wu 1298 (by decide +kernel) (by decide +kernel)
theorem k_1299 : Cond.instanceMethod ⟨"PaneStreet", "hours", "(I)I"⟩ ∈ WU := wu 1299 (by decide +kernel) (by decide +kernel)
theorem k_1300 : Cond.selects "PaneStreet" ⟨"PaneStreet", "hours", "(I)I"⟩ ⟨"PaneStreet", "hours", "(I)I"⟩ ∈ WU := wu 1300 (by decide +kernel) (by decide +kernel)
theorem k_1315 : Cond.methodLink "PaneStreetLaw" 48 ⟨"PaneStreet", "heads", "(II)I"⟩ ∈ WU := wu 1315 (by decide +kernel) (by decide +kernel)
theorem k_1316 : Cond.instanceMethod ⟨"PaneStreet", "heads", "(II)I"⟩ ∈ WU := wu 1316 (by decide +kernel) (by decide +kernel)
theorem k_1317 : Cond.selects "PaneStreet" ⟨"PaneStreet", "heads", "(II)I"⟩ ⟨"PaneStreet", "heads", "(II)I"⟩ ∈ WU := wu 1317 (by decide +kernel) (by decide +kernel)
theorem k_1323 : Cond.classLink "PaneStreetLaw" 54 "java/lang/IllegalStateException" ∈ WU := wu 1323 (by decide +kernel) (by decide +kernel)
theorem k_1324 : Cond.methodLink "PaneStreetLaw" 51 ⟨"PaneStreet", "strike", "(I)I"⟩ ∈ WU := wu 1324 (by decide +kernel) (by decide +kernel)
theorem k_1325 : Cond.instanceMethod ⟨"PaneStreet", "strike", "(I)I"⟩ ∈ WU := wu 1325 (by decide +kernel) (by decide +kernel)
theorem k_1326 : Cond.selects "PaneStreet" ⟨"PaneStreet", "strike", "(I)I"⟩ ⟨"PaneStreet", "strike", "(I)I"⟩ ∈ WU := wu 1326 (by decide +kernel) (by decide +kernel)
theorem k_1352 : Cond.methodLink "PaneStreetLaw" 56 ⟨"PaneStreet", "snuff", "(I)I"⟩ ∈ WU := wu 1352 (by decide +kernel) (by decide +kernel)
theorem k_1353 : Cond.instanceMethod ⟨"PaneStreet", "snuff", "(I)I"⟩ ∈ WU := wu 1353 (by decide +kernel) (by decide +kernel)
theorem k_1354 : Cond.selects "PaneStreet" ⟨"PaneStreet", "snuff", "(I)I"⟩ ⟨"PaneStreet", "snuff", "(I)I"⟩ ∈ WU := wu 1354 (by decide +kernel) (by decide +kernel)
theorem k_1362 : Cond.methodLink "PaneStreetLaw" 59 ⟨"PaneStreet", "oil", "(II)I"⟩ ∈ WU := wu 1362 (by decide +kernel) (by decide +kernel)
theorem k_1363 : Cond.instanceMethod ⟨"PaneStreet", "oil", "(II)I"⟩ ∈ WU := wu 1363 (by decide +kernel) (by decide +kernel)
theorem k_1364 : Cond.selects "PaneStreet" ⟨"PaneStreet", "oil", "(II)I"⟩ ⟨"PaneStreet", "oil", "(II)I"⟩ ∈ WU := wu 1364 (by decide +kernel) (by decide +kernel)
theorem k_1370 : Cond.methodLink "PaneStreetLaw" 62 ⟨"PaneStreet", "taper", "(II)I"⟩ ∈ WU := wu 1370 (by decide +kernel) (by decide +kernel)
theorem k_1371 : Cond.instanceMethod ⟨"PaneStreet", "taper", "(II)I"⟩ ∈ WU := wu 1371 (by decide +kernel) (by decide +kernel)
theorem k_1372 : Cond.selects "PaneStreet" ⟨"PaneStreet", "taper", "(II)I"⟩ ⟨"PaneStreet", "taper", "(II)I"⟩ ∈ WU := wu 1372 (by decide +kernel) (by decide +kernel)
theorem k_1377 : Cond.methodLink "PaneStreetLaw" 65 ⟨"PaneStreet", "like", "(III)I"⟩ ∈ WU := wu 1377 (by decide +kernel) (by decide +kernel)
theorem k_1378 : Cond.instanceMethod ⟨"PaneStreet", "like", "(III)I"⟩ ∈ WU := wu 1378 (by decide +kernel) (by decide +kernel)
theorem k_1379 : Cond.selects "PaneStreet" ⟨"PaneStreet", "like", "(III)I"⟩ ⟨"PaneStreet", "like", "(III)I"⟩ ∈ WU := wu 1379 (by decide +kernel) (by decide +kernel)
theorem k_1385 : Cond.methodLink "PaneStreetLaw" 69 ⟨"PaneStreet", "way", "(IIZ)Z"⟩ ∈ WU := wu 1385 (by decide +kernel) (by decide +kernel)
theorem k_1386 : Cond.instanceMethod ⟨"PaneStreet", "way", "(IIZ)Z"⟩ ∈ WU := wu 1386 (by decide +kernel) (by decide +kernel)
theorem k_1387 : Cond.selects "PaneStreet" ⟨"PaneStreet", "way", "(IIZ)Z"⟩ ⟨"PaneStreet", "way", "(IIZ)Z"⟩ ∈ WU := wu 1387 (by decide +kernel) (by decide +kernel)
theorem k_1393 : Cond.methodLink "PaneStreetLaw" 73 ⟨"PaneStreet", "far", "(II)I"⟩ ∈ WU := wu 1393 (by decide +kernel) (by decide +kernel)
theorem k_1394 : Cond.instanceMethod ⟨"PaneStreet", "far", "(II)I"⟩ ∈ WU := wu 1394 (by decide +kernel) (by decide +kernel)
theorem k_1395 : Cond.selects "PaneStreet" ⟨"PaneStreet", "far", "(II)I"⟩ ⟨"PaneStreet", "far", "(II)I"⟩ ∈ WU := wu 1395 (by decide +kernel) (by decide +kernel)
theorem k_1401 : Cond.methodLink "PaneStreetLaw" 76 ⟨"PaneStreet", "round", "(IZ)I"⟩ ∈ WU := wu 1401 (by decide +kernel) (by decide +kernel)
theorem k_1402 : Cond.instanceMethod ⟨"PaneStreet", "round", "(IZ)I"⟩ ∈ WU := wu 1402 (by decide +kernel) (by decide +kernel)
theorem k_1403 : Cond.selects "PaneStreet" ⟨"PaneStreet", "round", "(IZ)I"⟩ ⟨"PaneStreet", "round", "(IZ)I"⟩ ∈ WU := wu 1403 (by decide +kernel) (by decide +kernel)
theorem k_1442 : Cond.methodLink "PaneStreetLaw" 80 ⟨"PaneStreet", "closed", "(II)I"⟩ ∈ WU := wu 1442 (by decide +kernel) (by decide +kernel)
theorem k_1443 : Cond.instanceMethod ⟨"PaneStreet", "closed", "(II)I"⟩ ∈ WU := wu 1443 (by decide +kernel) (by decide +kernel)
theorem k_1444 : Cond.selects "PaneStreet" ⟨"PaneStreet", "closed", "(II)I"⟩ ⟨"PaneStreet", "closed", "(II)I"⟩ ∈ WU := wu 1444 (by decide +kernel) (by decide +kernel)
theorem k_1457 : Cond.methodLink "PaneStreetLaw" 83 ⟨"PaneStreet", "whoLit", "()I"⟩ ∈ WU := wu 1457 (by decide +kernel) (by decide +kernel)
theorem k_1458 : Cond.instanceMethod ⟨"PaneStreet", "whoLit", "()I"⟩ ∈ WU := wu 1458 (by decide +kernel) (by decide +kernel)
theorem k_1459 : Cond.selects "PaneStreet" ⟨"PaneStreet", "whoLit", "()I"⟩ ⟨"PaneStreet", "whoLit", "()I"⟩ ∈ WU := wu 1459 (by decide +kernel) (by decide +kernel)
theorem k_1484 : Cond.methodLink "PaneStreetLaw" 86 ⟨"PaneStreet", "ask", "()I"⟩ ∈ WU := wu 1484 (by decide +kernel) (by decide +kernel)
theorem k_1485 : Cond.instanceMethod ⟨"PaneStreet", "ask", "()I"⟩ ∈ WU := wu 1485 (by decide +kernel) (by decide +kernel)
theorem k_1486 : Cond.selects "PaneStreet" ⟨"PaneStreet", "ask", "()I"⟩ ⟨"PaneStreet", "ask", "()I"⟩ ∈ WU := wu 1486 (by decide +kernel) (by decide +kernel)
theorem k_1501 : Cond.methodLink "PaneStreetLaw" 89 ⟨"PaneStreet", "ring", "(I)Z"⟩ ∈ WU := wu 1501 (by decide +kernel) (by decide +kernel)
theorem k_1502 : Cond.instanceMethod ⟨"PaneStreet", "ring", "(I)Z"⟩ ∈ WU := wu 1502 (by decide +kernel) (by decide +kernel)
theorem k_1503 : Cond.selects "PaneStreet" ⟨"PaneStreet", "ring", "(I)Z"⟩ ⟨"PaneStreet", "ring", "(I)Z"⟩ ∈ WU := wu 1503 (by decide +kernel) (by decide +kernel)
theorem k_1513 : Cond.methodLink "PaneStreetLaw" 93 ⟨"PaneStreet", "pairs", "(I)I"⟩ ∈ WU := wu 1513 (by decide +kernel) (by decide +kernel)
theorem k_1514 : Cond.instanceMethod ⟨"PaneStreet", "pairs", "(I)I"⟩ ∈ WU := wu 1514 (by decide +kernel) (by decide +kernel)
theorem k_1515 : Cond.selects "PaneStreet" ⟨"PaneStreet", "pairs", "(I)I"⟩ ⟨"PaneStreet", "pairs", "(I)I"⟩ ∈ WU := wu 1515 (by decide +kernel) (by decide +kernel)
theorem k_1543 : Cond.methodLink "PaneStreetLaw" 96 ⟨"PaneStreet", "learnt", "()I"⟩ ∈ WU := wu 1543 (by decide +kernel) (by decide +kernel)
theorem k_1544 : Cond.instanceMethod ⟨"PaneStreet", "learnt", "()I"⟩ ∈ WU := wu 1544 (by decide +kernel) (by decide +kernel)
theorem k_1545 : Cond.selects "PaneStreet" ⟨"PaneStreet", "learnt", "()I"⟩ ⟨"PaneStreet", "learnt", "()I"⟩ ∈ WU := wu 1545 (by decide +kernel) (by decide +kernel)
theorem k_1560 : Cond.methodLink "PaneStreetLaw" 99 ⟨"PaneStreet", "share", "(II)I"⟩ ∈ WU := wu 1560 (by decide +kernel) (by decide +kernel)
theorem k_1561 : Cond.instanceMethod ⟨"PaneStreet", "share", "(II)I"⟩ ∈ WU := wu 1561 (by decide +kernel) (by decide +kernel)
theorem k_1562 : Cond.selects "PaneStreet" ⟨"PaneStreet", "share", "(II)I"⟩ ⟨"PaneStreet", "share", "(II)I"⟩ ∈ WU := wu 1562 (by decide +kernel) (by decide +kernel)
theorem k_1571 : Cond.methodLink "PaneStreetLaw" 102 ⟨"PaneStreet", "rests", "(II)I"⟩ ∈ WU := wu 1571 (by decide +kernel) (by decide +kernel)
theorem k_1572 : Cond.instanceMethod ⟨"PaneStreet", "rests", "(II)I"⟩ ∈ WU := wu 1572 (by decide +kernel) (by decide +kernel)
theorem k_1573 : Cond.selects "PaneStreet" ⟨"PaneStreet", "rests", "(II)I"⟩ ⟨"PaneStreet", "rests", "(II)I"⟩ ∈ WU := wu 1573 (by decide +kernel) (by decide +kernel)
theorem k_1586 : Cond.methodLink "PaneStreetLaw" 105 ⟨"PaneStreet", "odds", "(II)I"⟩ ∈ WU := wu 1586 (by decide +kernel) (by decide +kernel)
theorem k_1587 : Cond.instanceMethod ⟨"PaneStreet", "odds", "(II)I"⟩ ∈ WU := wu 1587 (by decide +kernel) (by decide +kernel)
theorem k_1588 : Cond.selects "PaneStreet" ⟨"PaneStreet", "odds", "(II)I"⟩ ⟨"PaneStreet", "odds", "(II)I"⟩ ∈ WU := wu 1588 (by decide +kernel) (by decide +kernel)
theorem k_1601 : Cond.methodLink "PaneStreetLaw" 108 ⟨"PaneStreet", "ahead", "(III)I"⟩ ∈ WU := wu 1601 (by decide +kernel) (by decide +kernel)
theorem k_1602 : Cond.instanceMethod ⟨"PaneStreet", "ahead", "(III)I"⟩ ∈ WU := wu 1602 (by decide +kernel) (by decide +kernel)
theorem k_1603 : Cond.selects "PaneStreet" ⟨"PaneStreet", "ahead", "(III)I"⟩ ⟨"PaneStreet", "ahead", "(III)I"⟩ ∈ WU := wu 1603 (by decide +kernel) (by decide +kernel)
theorem k_1613 : Cond.methodLink "PaneStreetLaw" 111 ⟨"PaneStreet", "trial", "(IZ)I"⟩ ∈ WU := wu 1613 (by decide +kernel) (by decide +kernel)
theorem k_1614 : Cond.instanceMethod ⟨"PaneStreet", "trial", "(IZ)I"⟩ ∈ WU := wu 1614 (by decide +kernel) (by decide +kernel)
theorem k_1615 : Cond.selects "PaneStreet" ⟨"PaneStreet", "trial", "(IZ)I"⟩ ⟨"PaneStreet", "trial", "(IZ)I"⟩ ∈ WU := wu 1615 (by decide +kernel) (by decide +kernel)
theorem k_1620 : Cond.methodLink "PaneStreetLaw" 114 ⟨"PaneStreet", "span", "(IZ)I"⟩ ∈ WU := wu 1620 (by decide +kernel) (by decide +kernel)
theorem k_1621 : Cond.instanceMethod ⟨"PaneStreet", "span", "(IZ)I"⟩ ∈ WU := wu 1621 (by decide +kernel) (by decide +kernel)
theorem k_1622 : Cond.selects "PaneStreet" ⟨"PaneStreet", "span", "(IZ)I"⟩ ⟨"PaneStreet", "span", "(IZ)I"⟩ ∈ WU := wu 1622 (by decide +kernel) (by decide +kernel)
theorem k_1629 : Cond.methodLink "PaneStreetLaw" 117 ⟨"PaneStreet", "led", "(IZ)I"⟩ ∈ WU := wu 1629 (by decide +kernel) (by decide +kernel)
theorem k_1630 : Cond.instanceMethod ⟨"PaneStreet", "led", "(IZ)I"⟩ ∈ WU := wu 1630 (by decide +kernel) (by decide +kernel)
theorem k_1631 : Cond.selects "PaneStreet" ⟨"PaneStreet", "led", "(IZ)I"⟩ ⟨"PaneStreet", "led", "(IZ)I"⟩ ∈ WU := wu 1631 (by decide +kernel) (by decide +kernel)
theorem k_1640 : Cond.methodLink "PaneStreetLaw" 120 ⟨"PaneStreet", "log", "(II)I"⟩ ∈ WU := wu 1640 (by decide +kernel) (by decide +kernel)
theorem k_1641 : Cond.instanceMethod ⟨"PaneStreet", "log", "(II)I"⟩ ∈ WU := wu 1641 (by decide +kernel) (by decide +kernel)
theorem k_1642 : Cond.selects "PaneStreet" ⟨"PaneStreet", "log", "(II)I"⟩ ⟨"PaneStreet", "log", "(II)I"⟩ ∈ WU := wu 1642 (by decide +kernel) (by decide +kernel)
theorem k_797 : Cond.classLink "PaneStreetLaw" 13 "java/lang/IllegalArgumentException" ∈ WU := wu 797 (by decide +kernel) (by decide +kernel)
theorem k_798 : Cond.classLink "PaneStreetLaw" 15 "java/lang/UnsupportedOperationException" ∈ WU := wu 798 (by decide +kernel) (by decide +kernel)
theorem k_799 : Cond.methodLink "PaneStreetLaw" 7 ⟨"PaneStreet", "street", "()I"⟩ ∈ WU := wu 799 (by decide +kernel) (by decide +kernel)
theorem k_800 : Cond.instanceMethod ⟨"PaneStreet", "street", "()I"⟩ ∈ WU := wu 800 (by decide +kernel) (by decide +kernel)
theorem k_801 : Cond.selects "PaneStreet" ⟨"PaneStreet", "street", "()I"⟩ ⟨"PaneStreet", "street", "()I"⟩ ∈ WU := wu 801 (by decide +kernel) (by decide +kernel)
theorem q_X11_street : CQ yX11_street cX11_street 1 (some .int) 0 := ⟨wu 802 (by decide +kernel) (by decide +kernel), wu 104 (by decide +kernel) (by decide +kernel), by decide +kernel, by decide +kernel, by decide +kernel⟩
theorem q_X11_law : CQ yX11_law cX11_law 1 (some .int) 0 := ⟨wu 1077 (by decide +kernel) (by decide +kernel), wu 104 (by decide +kernel) (by decide +kernel), by decide +kernel, by decide +kernel, by decide +kernel⟩
theorem q_X11_pane : CQ yX11_pane cX11_pane 3 (some .int) 2 := ⟨wu 1161 (by decide +kernel) (by decide +kernel), wu 104 (by decide +kernel) (by decide +kernel), by decide +kernel, by decide +kernel, by decide +kernel⟩
theorem q_X11_walker : CQ yX11_walker cX11_walker 3 (some .int) 2 := ⟨wu 1213 (by decide +kernel) (by decide +kernel), wu 104 (by decide +kernel) (by decide +kernel), by decide +kernel, by decide +kernel, by decide +kernel⟩
theorem q_X11_likes : CQ yX11_likes cX11_likes 3 (some .int) 2 := ⟨wu 1254 (by decide +kernel) (by decide +kernel), wu 104 (by decide +kernel) (by decide +kernel), by decide +kernel, by decide +kernel, by decide +kernel⟩
theorem q_X11_will : CQ yX11_will cX11_will 3 (some .int) 2 := ⟨wu 1267 (by decide +kernel) (by decide +kernel), wu 104 (by decide +kernel) (by decide +kernel), by decide +kernel, by decide +kernel, by decide +kernel⟩
theorem q_X11_lights : CQ yX11_lights cX11_lights 3 (some .boolean) 2 := ⟨wu 1277 (by decide +kernel) (by decide +kernel), wu 104 (by decide +kernel) (by decide +kernel), by decide +kernel, by decide +kernel, by decide +kernel⟩
theorem q_X11_isOpen : CQ yX11_isOpen cX11_isOpen 3 (some .boolean) 2 := ⟨wu 1285 (by decide +kernel) (by decide +kernel), wu 104 (by decide +kernel) (by decide +kernel), by decide +kernel, by decide +kernel, by decide +kernel⟩
theorem q_X11_hours : CQ yX11_hours cX11_hours 4 (some .int) 1 := ⟨wu 1301 (by decide +kernel) (by decide +kernel), wu 104 (by decide +kernel) (by decide +kernel), by decide +kernel, by decide +kernel, by decide +kernel⟩
theorem q_X11_heads : CQ yX11_heads cX11_heads 4 (some .int) 2 := ⟨wu 1318 (by decide +kernel) (by decide +kernel), wu 104 (by decide +kernel) (by decide +kernel), by decide +kernel, by decide +kernel, by decide +kernel⟩
theorem q_X11_strike : CQ yX11_strike cX11_strike 3 (some .int) 1 := ⟨wu 1327 (by decide +kernel) (by decide +kernel), wu 104 (by decide +kernel) (by decide +kernel), by decide +kernel, by decide +kernel, by decide +kernel⟩
theorem q_X11_snuff : CQ yX11_snuff cX11_snuff 2 (some .int) 1 := ⟨wu 1355 (by decide +kernel) (by decide +kernel), wu 104 (by decide +kernel) (by decide +kernel), by decide +kernel, by decide +kernel, by decide +kernel⟩
theorem q_X11_oil : CQ yX11_oil cX11_oil 3 (some .int) 2 := ⟨wu 1365 (by decide +kernel) (by decide +kernel), wu 104 (by decide +kernel) (by decide +kernel), by decide +kernel, by decide +kernel, by decide +kernel⟩
theorem q_X11_taper : CQ yX11_taper cX11_taper 3 (some .int) 2 := ⟨wu 1373 (by decide +kernel) (by decide +kernel), wu 104 (by decide +kernel) (by decide +kernel), by decide +kernel, by decide +kernel, by decide +kernel⟩
theorem q_X11_like : CQ yX11_like cX11_like 5 (some .int) 3 := ⟨wu 1380 (by decide +kernel) (by decide +kernel), wu 104 (by decide +kernel) (by decide +kernel), by decide +kernel, by decide +kernel, by decide +kernel⟩
theorem q_X11_way : CQ yX11_way cX11_way 5 (some .boolean) 3 := ⟨wu 1388 (by decide +kernel) (by decide +kernel), wu 104 (by decide +kernel) (by decide +kernel), by decide +kernel, by decide +kernel, by decide +kernel⟩
theorem q_X11_far : CQ yX11_far cX11_far 3 (some .int) 2 := ⟨wu 1396 (by decide +kernel) (by decide +kernel), wu 104 (by decide +kernel) (by decide +kernel), by decide +kernel, by decide +kernel, by decide +kernel⟩
theorem q_X11_round : CQ yX11_round cX11_round 7 (some .int) 2 := ⟨wu 1404 (by decide +kernel) (by decide +kernel), wu 104 (by decide +kernel) (by decide +kernel), by decide +kernel, by decide +kernel, by decide +kernel⟩
theorem q_X11_closed : CQ yX11_closed cX11_closed 3 (some .int) 2 := ⟨wu 1445 (by decide +kernel) (by decide +kernel), wu 104 (by decide +kernel) (by decide +kernel), by decide +kernel, by decide +kernel, by decide +kernel⟩
theorem q_X11_whoLit : CQ yX11_whoLit cX11_whoLit 1 (some .int) 0 := ⟨wu 1460 (by decide +kernel) (by decide +kernel), wu 104 (by decide +kernel) (by decide +kernel), by decide +kernel, by decide +kernel, by decide +kernel⟩
theorem q_X11_ask : CQ yX11_ask cX11_ask 1 (some .int) 0 := ⟨wu 1487 (by decide +kernel) (by decide +kernel), wu 104 (by decide +kernel) (by decide +kernel), by decide +kernel, by decide +kernel, by decide +kernel⟩
theorem q_X11_ring : CQ yX11_ring cX11_ring 2 (some .boolean) 1 := ⟨wu 1504 (by decide +kernel) (by decide +kernel), wu 104 (by decide +kernel) (by decide +kernel), by decide +kernel, by decide +kernel, by decide +kernel⟩
theorem q_X11_pairs : CQ yX11_pairs cX11_pairs 2 (some .int) 1 := ⟨wu 1516 (by decide +kernel) (by decide +kernel), wu 104 (by decide +kernel) (by decide +kernel), by decide +kernel, by decide +kernel, by decide +kernel⟩
theorem q_X11_learnt : CQ yX11_learnt cX11_learnt 2 (some .int) 0 := ⟨wu 1546 (by decide +kernel) (by decide +kernel), wu 104 (by decide +kernel) (by decide +kernel), by decide +kernel, by decide +kernel, by decide +kernel⟩
theorem q_X11_share : CQ yX11_share cX11_share 3 (some .int) 2 := ⟨wu 1563 (by decide +kernel) (by decide +kernel), wu 104 (by decide +kernel) (by decide +kernel), by decide +kernel, by decide +kernel, by decide +kernel⟩
theorem q_X11_rests : CQ yX11_rests cX11_rests 3 (some .int) 2 := ⟨wu 1574 (by decide +kernel) (by decide +kernel), wu 104 (by decide +kernel) (by decide +kernel), by decide +kernel, by decide +kernel, by decide +kernel⟩
theorem q_X11_odds : CQ yX11_odds cX11_odds 3 (some .int) 2 := ⟨wu 1589 (by decide +kernel) (by decide +kernel), wu 104 (by decide +kernel) (by decide +kernel), by decide +kernel, by decide +kernel, by decide +kernel⟩
theorem q_X11_ahead : CQ yX11_ahead cX11_ahead 5 (some .int) 3 := ⟨wu 1604 (by decide +kernel) (by decide +kernel), wu 104 (by decide +kernel) (by decide +kernel), by decide +kernel, by decide +kernel, by decide +kernel⟩
theorem q_X11_trial : CQ yX11_trial cX11_trial 4 (some .int) 2 := ⟨wu 1616 (by decide +kernel) (by decide +kernel), wu 104 (by decide +kernel) (by decide +kernel), by decide +kernel, by decide +kernel, by decide +kernel⟩
theorem q_X11_span : CQ yX11_span cX11_span 6 (some .int) 2 := ⟨wu 1623 (by decide +kernel) (by decide +kernel), wu 104 (by decide +kernel) (by decide +kernel), by decide +kernel, by decide +kernel, by decide +kernel⟩
theorem q_X11_led : CQ yX11_led cX11_led 6 (some .int) 2 := ⟨wu 1632 (by decide +kernel) (by decide +kernel), wu 104 (by decide +kernel) (by decide +kernel), by decide +kernel, by decide +kernel, by decide +kernel⟩
theorem q_X11_log : CQ yX11_log cX11_log 3 (some .int) 2 := ⟨wu 1643 (by decide +kernel) (by decide +kernel), wu 104 (by decide +kernel) (by decide +kernel), by decide +kernel, by decide +kernel, by decide +kernel⟩
/-! methods of the law's class that catch what the class throws -/
def hx1 (c1 x : Nat) (σ : Mem) : Option (Int32 × Mem) := if x = c1 then some (1, σ) else none
def hx2 (c1 c2 x : Nat) (σ : Mem) : Option (Int32 × Mem) := if x = c1 then some (1, σ) else if x = c2 then some (2, σ) else none
def hx3 (c1 c2 c3 x : Nat) (σ : Mem) : Option (Int32 × Mem) := if x = c1 then some (1, σ) else if x = c2 then some (2, σ) else if x = c3 then some (3, σ) else none
theorem hx1_s {c1 x : Nat} {σ : Mem} {r : Int32 × Mem} (h : hx1 c1 x σ = some r) : x = c1 ∧ (1, σ) = r := by
  unfold hx1 at h
  split at h
  · exact ⟨‹_›, Option.some.inj h⟩
  · cases h
theorem hx2_s {c1 c2 x : Nat} {σ : Mem} {r : Int32 × Mem} (h : hx2 c1 c2 x σ = some r) : (x = c1 ∧ (1, σ) = r) ∨ (x = c2 ∧ (2, σ) = r) := by
  unfold hx2 at h
  split at h
  · exact Or.inl ⟨‹_›, Option.some.inj h⟩
  · split at h
    · exact Or.inr ⟨‹_›, Option.some.inj h⟩
    · cases h
theorem hx3_s {c1 c2 c3 x : Nat} {σ : Mem} {r : Int32 × Mem} (h : hx3 c1 c2 c3 x σ = some r) : (x = c1 ∧ (1, σ) = r) ∨ (x = c2 ∧ (2, σ) = r) ∨ (x = c3 ∧ (3, σ) = r) := by
  unfold hx3 at h
  split at h
  · exact Or.inl ⟨‹_›, Option.some.inj h⟩
  · split at h
    · exact Or.inr (Or.inl ⟨‹_›, Option.some.inj h⟩)
    · split at h
      · exact Or.inr (Or.inr ⟨‹_›, Option.some.inj h⟩)
      · cases h
/-- a contract: an int, some cells made, a table of its own -/
def CtW (l : Launch) (E : GE) (y : MethodName) (cc : ByteArray) (nL : Nat) (hh : List (Nat × Nat × Nat × Nat)) (h K : Nat) (As : List Value) (σ : Mem) (r0 : Int32) (σ' : Mem) : Prop :=
  Met l y (.codeWith y cc nL (some .int) hh :: WU) (RX h K) (va_Pc As (Wd E σ)) (va_Qi (fun (r : Int32) (u : Mem) => r = r0 ∧ u = σ') (We E) (Fr E)) K (6 * K) (Fr E)
theorem ofWC {l : Launch} {y : MethodName} {ws ws' : List Cond} {rm : Room} {Pc : Array Value → State → Prop} {Qc : Array Value → State → Outcome → State → Prop} {mc ms : Nat} {free : Addr → Prop} {cc : ByteArray} {maxL : Nat} {ret : Option FieldType} {hh : List (Nat × Nat × Nat × Nat)}
    (hy : plainName y.cls = true) (hw : ws = Cond.codeWith y cc maxL ret hh :: ws')
    (body : ∀ p e s m args below meth c s₁, BodyLoose p l y (headSpec ws rm) cc maxL ret e s m args below meth c s₁ → c.maxLocals = maxL → Pc args s →
      W p l e (headSpec ws rm).room s m args below meth c s.heap [] 0 0 (MQ below Qc args s mc ms free) (entryFrame m args maxL)) : Met l y ws rm Pc Qc mc ms free := by
  refine MetFree.of_bodyS (code := cc) (maxLocals := maxL) (ret := ret) hy ?_ ?_
  · intro args s m h hn
    obtain ⟨m9, meth, c, hn9, h1, h2, h3, h4, -, h5, h6, -⟩ := Cond.codeWith_spec (atoms_spec (ws := ws) h _ (by rw [hw]; exact List.mem_cons_self))
    cases hn.symm.trans hn9
    exact ⟨meth, c, h1, h2, h3, h4, h5, h6⟩
  · intro p e s m args below meth c s₁ B hml hP _
    have hh0 : s₁.heap = s.heap := by rw [B.state]; rfl
    obtain ⟨t, a1, o, b1, b2, b3⟩ := body p e s m args below meth c s₁ B hml hP s₁ hh0 (Stand.of_body B)
    exact ⟨t, o, a1, b1, b2, ⟨b3.1, b3.2⟩⟩
section WRAP
variable {p : Program} {l : Launch} {e : Env} {R : Room} {s : State} {m : MethodId} {args : Array Value} {below : List Frame} {meth : Method} {c : Code} {H : Heap} {locs : List Loc} {cells slots : Nat} {Q : State → Prop}
variable {cc : ByteArray} {nL pc : Nat} {ls : Array Slot} {rest st0 As : List Value} {E : GE} {σ σ' : Mem} {own : String} {ret : Option FieldType} {y : MethodName} {b2 : ByteArray} {n2 n h index K : Nat}
theorem cxofW {rm : Room} {s₁ : State} {hh : List (Nat × Nat × Nat × Nat)} (B : BodyLoose p l y (headSpec (.codeWith y b2 n2 (some .int) hh :: WU) rm) b2 n2 (some .int) e s m args below meth c s₁) (hml : c.maxLocals = n2) : Cx p s m args meth c b2 (some .int) n2 y.cls ∧ c.exceptionTable.toList = tableOf hh :=
  ⟨⟨B.exec, B.bytes, B.returns, hml, findClass_of_methodNamed B.named, fun w hw => atoms_spec (ws := .codeWith y b2 n2 (some .int) hh :: WU) B.pre w (List.mem_cons_of_mem _ hw), B.notSynchronized⟩, vx_table (x := y) B (atoms_spec (ws := .codeWith y b2 n2 (some .int) hh :: WU) B.pre _ List.mem_cons_self)⟩
theorem rtW {r0 : Int32} (C : Cx p s m args meth c cc (some .int) nL own) (X : Hx E σ s H locs) (hc : cells = K) (hs : slots = 6 * K) (d : decode cc pc = .ok (.ireturn, 1)) : W p l e R s m args below meth c H locs cells slots (MQ below (va_Qi (fun (r : Int32) (u : Mem) => r = r0 ∧ u = σ) (We E) (Fr E)) args s K (6 * K) (Fr E)) (F0 m pc ls [.int r0]) := by
  subst hc; subst hs
  exact rtI C X d
theorem cst_ (G : Gf E s) {a b : String} (h : (a, b) ∈ cstL) : (Cond.castable a b).before args s = true := va_Nw.use rfl (G.2.1.2.2.1 (a, b) h)
theorem ncs_ (C : Cx p s m args meth c cc ret nL own) (G : Gf E s) {z : ExceptionTableEntry} {a nm : String} (h0 : z.catchType ≠ 0) (hk : Cond.classLink own z.catchType nm ∈ WU) (h : (a, nm) ∈ ncL) : covers z pc = false ∨ (z.catchType ≠ 0 ∧ ∃ nm : String, (Cond.classLink own z.catchType nm).before args s = true ∧ va_Nc a nm s) :=
  Or.inr ⟨h0, nm, C.ts _ hk, G.2.1.2.2.2 (a, nm) h⟩
theorem in411 : vp_in 0 (ln 411) := show ¬ ((0 : Int32) < 0 ∨ ln 411 ≤ (0 : Int32).toNatClampNeg) from by decide +kernel
theorem kd411 : kd 411 = 13 := by decide +kernel
end WRAP
def L_street (σ : Mem) : Option (Int32 × Mem) :=
  bdx2 (X11_street σ) (fun v σ1 => some (0, st σ1 411 0 v)) (fun x9 σ1 => hx2 2 5 x9 σ1)

def L_law (σ : Mem) : Option (Int32 × Mem) :=
  bdx2 (X11_law σ) (fun v σ1 => some (0, st σ1 411 0 v)) (fun x9 σ1 => hx1 2 x9 σ1)

def L_pane (x1 x2 : Int32) (σ : Mem) : Option (Int32 × Mem) :=
  bdx2 (X11_pane x1 x2 σ) (fun v σ1 => some (0, st σ1 411 0 v)) (fun x9 σ1 => hx2 1 4 x9 σ1)

def L_walker (x1 x2 : Int32) (σ : Mem) : Option (Int32 × Mem) :=
  bdx2 (X11_walker x1 x2 σ) (fun v σ1 => some (0, st σ1 411 0 v)) (fun x9 σ1 => hx2 1 4 x9 σ1)

def L_likes (x1 x2 : Int32) (σ : Mem) : Option (Int32 × Mem) :=
  bdx (X11_likes σ x1 x2) (fun v => some (0, st σ 411 0 v)) (fun x9 => hx2 1 2 x9 σ)

def L_will (x1 x2 : Int32) (σ : Mem) : Option (Int32 × Mem) :=
  bdx2 (X11_will x1 x2 σ) (fun v σ1 => some (0, st σ1 411 0 v)) (fun x9 σ1 => hx1 1 x9 σ1)

def L_lights (x1 x2 : Int32) (σ : Mem) : Option (Int32 × Mem) :=
  bdx2 (X11_lights x1 x2 σ) (fun v σ1 => some (0, st σ1 411 0 (if v = 0 then 0 else 1))) (fun x9 σ1 => hx1 1 x9 σ1)

def L_isOpen (x1 x2 : Int32) (σ : Mem) : Option (Int32 × Mem) :=
  bdx (X11_isOpen σ x1 x2) (fun v => some (0, st σ 411 0 (if v = 0 then 0 else 1))) (fun x9 => hx2 1 2 x9 σ)

def L_hours (x1 : Int32) (σ : Mem) : Option (Int32 × Mem) :=
  bdx2 (X11_hours x1 σ) (fun v σ1 => some (0, st σ1 411 0 v)) (fun x9 σ1 => hx1 2 x9 σ1)

def L_heads (x1 x2 : Int32) (σ : Mem) : Option (Int32 × Mem) :=
  bdx2 (X11_heads x1 x2 σ) (fun v σ1 => some (0, st σ1 411 0 v)) (fun x9 σ1 => hx1 1 x9 σ1)

def L_strike (x1 : Int32) (σ : Mem) : Option (Int32 × Mem) :=
  bdx2 (X11_strike x1 σ) (fun v σ1 => some (0, st σ1 411 0 v)) (fun x9 σ1 => hx2 1 3 x9 σ1)

def L_snuff (x1 : Int32) (σ : Mem) : Option (Int32 × Mem) :=
  bdx2 (X11_snuff x1 σ) (fun v σ1 => some (0, st σ1 411 0 v)) (fun x9 σ1 => hx2 1 3 x9 σ1)

def L_oil (x1 x2 : Int32) (σ : Mem) : Option (Int32 × Mem) :=
  bdx2 (X11_oil x1 x2 σ) (fun v σ1 => some (0, st σ1 411 0 v)) (fun x9 σ1 => hx2 1 2 x9 σ1)

def L_taper (x1 x2 : Int32) (σ : Mem) : Option (Int32 × Mem) :=
  bdx2 (X11_taper x1 x2 σ) (fun v σ1 => some (0, st σ1 411 0 v)) (fun x9 σ1 => hx2 1 2 x9 σ1)

def L_like (x1 x2 x3 : Int32) (σ : Mem) : Option (Int32 × Mem) :=
  bdx2 (X11_like x1 x2 x3 σ) (fun v σ1 => some (0, st σ1 411 0 v)) (fun x9 σ1 => hx2 1 2 x9 σ1)

def L_way (x1 x2 x3 : Int32) (σ : Mem) : Option (Int32 × Mem) :=
  bdx2 (X11_way x1 x2 x3 σ) (fun v σ1 => some (0, st σ1 411 0 (if v = 0 then 0 else 1))) (fun x9 σ1 => hx2 1 2 x9 σ1)

def L_far (x1 x2 : Int32) (σ : Mem) : Option (Int32 × Mem) :=
  bdx (X11_far σ x1 x2) (fun v => some (0, st σ 411 0 v)) (fun x9 => hx1 1 x9 σ)

def L_round (x1 x2 : Int32) (σ : Mem) : Option (Int32 × Mem) :=
  bdx2 (X11_round x1 x2 σ) (fun v σ1 => some (0, st σ1 411 0 v)) (fun x9 σ1 => hx2 1 2 x9 σ1)

def L_closed (x1 x2 : Int32) (σ : Mem) : Option (Int32 × Mem) :=
  bdx (X11_closed σ x1 x2) (fun v => some (0, st σ 411 0 v)) (fun x9 => hx1 1 x9 σ)

def L_whoLit (σ : Mem) : Option (Int32 × Mem) :=
  bdx2 (X11_whoLit σ) (fun v σ1 => some (0, st σ1 411 0 v)) (fun x9 σ1 => hx1 2 x9 σ1)

def L_ask (σ : Mem) : Option (Int32 × Mem) :=
  bdx2 (X11_ask σ) (fun v σ1 => some (0, st σ1 411 0 v)) (fun x9 σ1 => hx1 2 x9 σ1)

def L_ring (x1 : Int32) (σ : Mem) : Option (Int32 × Mem) :=
  bdx2 (X11_ring x1 σ) (fun v σ1 => some (0, st σ1 411 0 (if v = 0 then 0 else 1))) (fun x9 σ1 => hx1 1 x9 σ1)

def L_pairs (x1 : Int32) (σ : Mem) : Option (Int32 × Mem) :=
  bdx2 (X11_pairs x1 σ) (fun v σ1 => some (0, st σ1 411 0 v)) (fun x9 σ1 => hx1 1 x9 σ1)

def L_learnt (σ : Mem) : Option (Int32 × Mem) :=
  bdx2 (X11_learnt σ) (fun v σ1 => some (0, st σ1 411 0 v)) (fun x9 σ1 => hx1 2 x9 σ1)

def L_share (x1 x2 : Int32) (σ : Mem) : Option (Int32 × Mem) :=
  bdx2 (X11_share x1 x2 σ) (fun v σ1 => some (0, st σ1 411 0 v)) (fun x9 σ1 => hx2 1 2 x9 σ1)

def L_rests (x1 x2 : Int32) (σ : Mem) : Option (Int32 × Mem) :=
  bdx (X11_rests σ x1 x2) (fun v => some (0, st σ 411 0 v)) (fun x9 => hx2 1 2 x9 σ)

def L_odds (x1 x2 : Int32) (σ : Mem) : Option (Int32 × Mem) :=
  bdx (X11_odds σ x1 x2) (fun v => some (0, st σ 411 0 v)) (fun x9 => hx1 2 x9 σ)

def L_ahead (x1 x2 x3 : Int32) (σ : Mem) : Option (Int32 × Mem) :=
  bdx2 (X11_ahead x1 x2 x3 σ) (fun v σ1 => some (0, st σ1 411 0 v)) (fun x9 σ1 => hx3 1 2 4 x9 σ1)

def L_trial (x1 x2 : Int32) (σ : Mem) : Option (Int32 × Mem) :=
  bdx2 (X11_trial x1 x2 σ) (fun v σ1 => some (0, st σ1 411 0 v)) (fun x9 σ1 => hx1 2 x9 σ1)

def L_span (x1 x2 : Int32) (σ : Mem) : Option (Int32 × Mem) :=
  bdx2 (X11_span x1 x2 σ) (fun v σ1 => some (0, st σ1 411 0 v)) (fun x9 σ1 => hx1 2 x9 σ1)

def L_led (x1 x2 : Int32) (σ : Mem) : Option (Int32 × Mem) :=
  bdx (X11_led σ x1 x2) (fun v => some (0, st σ 411 0 v)) (fun x9 => hx1 1 x9 σ)

def L_log (x1 x2 : Int32) (σ : Mem) : Option (Int32 × Mem) :=
  bdx (X11_log σ x1 x2) (fun v => some (0, st σ 411 0 v)) (fun x9 => hx1 4 x9 σ)

theorem c_L_street (l : Launch) (E : GE) (hT : l.stackTraces = false) {σ : Mem} {r : Int32 × Mem} (h : L_street σ = some r) : CtW l E yL_street cL_street 3 [(0, 8, 11, 13), (0, 8, 14, 15)] 13 1 [.ref (gB E + 0), .ref (gB E + 411)] σ r.1 r.2 := by
  refine ofWC (cc := cL_street) (maxL := 3) (ret := (some .int)) (by decide) rfl ?_
  intro p e s m args below meth c s₁ B hml hv
  obtain ⟨rfl, G, X⟩ := start hv
  obtain ⟨C, T0⟩ := cxofW B hml
  have hl := lv_entry [.ref (gB E + 0), .ref (gB E + 411)] (n := 3) (Nat.le_of_ble_eq_true rfl)
  rw [lg_entry_eq]
  generalize (lg_sl [.ref (gB E + 0), .ref (gB E + 411)] ++ List.replicate (3 - (lg_sl [.ref (gB E + 0), .ref (gB E + 411)]).length) Slot.unset).toArray = ls at hl ⊢
  unfold L_street at h
  refine lv_aload_n C.1 C.2.1 dL_street_0 rfl (lv_at hl 1 rfl) ?_
  refine lv_iconst (v := 0) C.1 C.2.1 dL_street_1 (by decide) ?_
  refine lv_aload_n C.1 C.2.1 dL_street_2 rfl (lv_at hl 0 rfl) ?_
  rcases bndx2 h with ⟨v, σ1, e9, h⟩ | ⟨x9, σ1, e9, h⟩
  · refine axI X (runXV C G X q_X11_street k_800 k_801 k_799 (rcX11 G X kd_0) (c_X11_street l E hT e9) rfl hl.1 rfl (Nat.le_of_ble_eq_true rfl) ⟨Nat.le_of_ble_eq_true rfl, Nat.le_of_ble_eq_true rfl⟩ ⟨Nat.le_of_ble_eq_true rfl, Nat.le_of_ble_eq_true rfl⟩ dL_street_3) (fun r9 H locs er X => ?_) (fun x9 H locs q9 ce er X hz hv hcl => nomatch er)
    rw [← Sum.inl.inj er, ← Option.some.inj h]
    refine lv_i2l C.1 C.2.1 dL_street_6 rfl ?_
    refine ast_o C G X (k := 411) (x := v) kd411 in411 dL_street_7 (fun H locs X => ?_)
    refine lv_goto (tgt := 17) C.1 C.2.1 dL_street_8 (by decide) ?_
    refine lv_iconst (v := 0) C.1 C.2.1 dL_street_17 (by decide) ?_
    exact rtW C X rfl rfl dL_street_18
  · refine axI X (runXV C G X q_X11_street k_800 k_801 k_799 (rcX11 G X kd_0) (c_X11_street l E hT e9) rfl hl.1 rfl (Nat.le_of_ble_eq_true rfl) ⟨Nat.le_of_ble_eq_true rfl, Nat.le_of_ble_eq_true rfl⟩ ⟨Nat.le_of_ble_eq_true rfl, Nat.le_of_ble_eq_true rfl⟩ dL_street_3) (fun r9 H locs er X => nomatch er) (fun x8 H locs q9 ce er X hz hv hcl => ?_)
    rw [← Sum.inr.inj er] at hcl
    rcases hx2_s h with ⟨rfl, hr⟩ | ⟨rfl, hr⟩
    · rw [← hr]
      refine vx_catch C.hown [] ⟨0, 8, 11, 13⟩ [⟨0, 8, 14, 15⟩] (by rw [T0]; rfl) (fun z hz => nomatch hz) (by decide) (by decide) (C.ts _ k_797) (cst_ G (a := exN 2) (b := "java/lang/IllegalArgumentException") (by decide +kernel)) hz hv hcl ?_
      refine lv_astore_n (lv' := [(2, .ref q9), (0, .ref (gB E + 0)), (1, .ref (gB E + 411))]) C.1 C.2.1 dL_street_11 rfl hl (by decide) rfl (fun ls hl => ?_)
      refine lv_iconst (v := 1) C.1 C.2.1 dL_street_12 (by decide) ?_
      exact rtW C X rfl rfl dL_street_13
    · rw [← hr]
      refine vx_catch C.hown [⟨0, 8, 11, 13⟩] ⟨0, 8, 14, 15⟩ [] (by rw [T0]; rfl) (fun z hz => by
          simp only [List.mem_cons, List.not_mem_nil, or_false] at hz
          subst hz
          exact ncs_ C G (by decide) k_797 (by decide +kernel)) (by decide) (by decide) (C.ts _ k_798) (cst_ G (a := exN 5) (b := "java/lang/UnsupportedOperationException") (by decide +kernel)) hz hv hcl ?_
      refine lv_astore_n (lv' := [(2, .ref q9), (0, .ref (gB E + 0)), (1, .ref (gB E + 411))]) C.1 C.2.1 dL_street_14 rfl hl (by decide) rfl (fun ls hl => ?_)
      refine lv_iconst (v := 2) C.1 C.2.1 dL_street_15 (by decide) ?_
      exact rtW C X rfl rfl dL_street_16
theorem c_L_law (l : Launch) (E : GE) (hT : l.stackTraces = false) {σ : Mem} {r : Int32 × Mem} (h : L_law σ = some r) : CtW l E yL_law cL_law 3 [(0, 8, 11, 13)] 204 1 [.ref (gB E + 0), .ref (gB E + 411)] σ r.1 r.2 := by
  refine ofWC (cc := cL_law) (maxL := 3) (ret := (some .int)) (by decide) rfl ?_
  intro p e s m args below meth c s₁ B hml hv
  obtain ⟨rfl, G, X⟩ := start hv
  obtain ⟨C, T0⟩ := cxofW B hml
  have hl := lv_entry [.ref (gB E + 0), .ref (gB E + 411)] (n := 3) (Nat.le_of_ble_eq_true rfl)
  rw [lg_entry_eq]
  generalize (lg_sl [.ref (gB E + 0), .ref (gB E + 411)] ++ List.replicate (3 - (lg_sl [.ref (gB E + 0), .ref (gB E + 411)]).length) Slot.unset).toArray = ls at hl ⊢
  unfold L_law at h
  refine lv_aload_n C.1 C.2.1 dL_law_0 rfl (lv_at hl 1 rfl) ?_
  refine lv_iconst (v := 0) C.1 C.2.1 dL_law_1 (by decide) ?_
  refine lv_aload_n C.1 C.2.1 dL_law_2 rfl (lv_at hl 0 rfl) ?_
  rcases bndx2 h with ⟨v, σ1, e9, h⟩ | ⟨x9, σ1, e9, h⟩
  · refine axI X (runXV C G X q_X11_law k_1075 k_1076 k_1074 (rcX11 G X kd_0) (c_X11_law l E hT e9) rfl hl.1 rfl (Nat.le_of_ble_eq_true rfl) ⟨Nat.le_of_ble_eq_true rfl, Nat.le_of_ble_eq_true rfl⟩ ⟨Nat.le_of_ble_eq_true rfl, Nat.le_of_ble_eq_true rfl⟩ dL_law_3) (fun r9 H locs er X => ?_) (fun x9 H locs q9 ce er X hz hv hcl => nomatch er)
    rw [← Sum.inl.inj er, ← Option.some.inj h]
    refine lv_i2l C.1 C.2.1 dL_law_6 rfl ?_
    refine ast_o C G X (k := 411) (x := v) kd411 in411 dL_law_7 (fun H locs X => ?_)
    refine lv_goto (tgt := 14) C.1 C.2.1 dL_law_8 (by decide) ?_
    refine lv_iconst (v := 0) C.1 C.2.1 dL_law_14 (by decide) ?_
    exact rtW C X rfl rfl dL_law_15
  · refine axI X (runXV C G X q_X11_law k_1075 k_1076 k_1074 (rcX11 G X kd_0) (c_X11_law l E hT e9) rfl hl.1 rfl (Nat.le_of_ble_eq_true rfl) ⟨Nat.le_of_ble_eq_true rfl, Nat.le_of_ble_eq_true rfl⟩ ⟨Nat.le_of_ble_eq_true rfl, Nat.le_of_ble_eq_true rfl⟩ dL_law_3) (fun r9 H locs er X => nomatch er) (fun x8 H locs q9 ce er X hz hv hcl => ?_)
    rw [← Sum.inr.inj er] at hcl
    obtain ⟨rfl, hr⟩ := hx1_s h
    rw [← hr]
    refine vx_catch C.hown [] ⟨0, 8, 11, 13⟩ [] (by rw [T0]; rfl) (fun z hz => nomatch hz) (by decide) (by decide) (C.ts _ k_797) (cst_ G (a := exN 2) (b := "java/lang/IllegalArgumentException") (by decide +kernel)) hz hv hcl ?_
    refine lv_astore_n (lv' := [(2, .ref q9), (0, .ref (gB E + 0)), (1, .ref (gB E + 411))]) C.1 C.2.1 dL_law_11 rfl hl (by decide) rfl (fun ls hl => ?_)
    refine lv_iconst (v := 1) C.1 C.2.1 dL_law_12 (by decide) ?_
    exact rtW C X rfl rfl dL_law_13
theorem c_L_pane (l : Launch) (E : GE) (hT : l.stackTraces = false) {σ : Mem} {x1 x2 : Int32} {r : Int32 × Mem} (h : L_pane x1 x2 σ = some r) : CtW l E yL_pane cL_pane 5 [(0, 10, 13, 24), (0, 10, 17, 26)] 14 2 [.ref (gB E + 0), .int x1, .int x2, .ref (gB E + 411)] σ r.1 r.2 := by
  refine ofWC (cc := cL_pane) (maxL := 5) (ret := (some .int)) (by decide) rfl ?_
  intro p e s m args below meth c s₁ B hml hv
  obtain ⟨rfl, G, X⟩ := start hv
  obtain ⟨C, T0⟩ := cxofW B hml
  have hl := lv_entry [.ref (gB E + 0), .int x1, .int x2, .ref (gB E + 411)] (n := 5) (Nat.le_of_ble_eq_true rfl)
  rw [lg_entry_eq]
  generalize (lg_sl [.ref (gB E + 0), .int x1, .int x2, .ref (gB E + 411)] ++ List.replicate (5 - (lg_sl [.ref (gB E + 0), .int x1, .int x2, .ref (gB E + 411)]).length) Slot.unset).toArray = ls at hl ⊢
  unfold L_pane at h
  refine lv_aload_n C.1 C.2.1 dL_pane_0 rfl (lv_at hl 3 rfl) ?_
  refine lv_iconst (v := 0) C.1 C.2.1 dL_pane_1 (by decide) ?_
  refine lv_aload_n C.1 C.2.1 dL_pane_2 rfl (lv_at hl 0 rfl) ?_
  refine lv_iload_n C.1 C.2.1 dL_pane_3 rfl (lv_at hl 1 rfl) ?_
  refine lv_iload_n C.1 C.2.1 dL_pane_4 rfl (lv_at hl 2 rfl) ?_
  rcases bndx2 h with ⟨v, σ1, e9, h⟩ | ⟨x9, σ1, e9, h⟩
  · refine axI X (runXV C G X q_X11_pane k_1159 k_1160 k_1158 (rcX11 G X kd_0) (c_X11_pane l E hT e9) rfl hl.1 rfl (Nat.le_of_ble_eq_true rfl) ⟨Nat.le_of_ble_eq_true rfl, Nat.le_of_ble_eq_true rfl⟩ ⟨Nat.le_of_ble_eq_true rfl, Nat.le_of_ble_eq_true rfl⟩ dL_pane_5) (fun r9 H locs er X => ?_) (fun x9 H locs q9 ce er X hz hv hcl => nomatch er)
    rw [← Sum.inl.inj er, ← Option.some.inj h]
    refine lv_i2l C.1 C.2.1 dL_pane_8 rfl ?_
    refine ast_o C G X (k := 411) (x := v) kd411 in411 dL_pane_9 (fun H locs X => ?_)
    refine lv_goto (tgt := 21) C.1 C.2.1 dL_pane_10 (by decide) ?_
    refine lv_iconst (v := 0) C.1 C.2.1 dL_pane_21 (by decide) ?_
    exact rtW C X rfl rfl dL_pane_22
  · refine axI X (runXV C G X q_X11_pane k_1159 k_1160 k_1158 (rcX11 G X kd_0) (c_X11_pane l E hT e9) rfl hl.1 rfl (Nat.le_of_ble_eq_true rfl) ⟨Nat.le_of_ble_eq_true rfl, Nat.le_of_ble_eq_true rfl⟩ ⟨Nat.le_of_ble_eq_true rfl, Nat.le_of_ble_eq_true rfl⟩ dL_pane_5) (fun r9 H locs er X => nomatch er) (fun x8 H locs q9 ce er X hz hv hcl => ?_)
    rw [← Sum.inr.inj er] at hcl
    rcases hx2_s h with ⟨rfl, hr⟩ | ⟨rfl, hr⟩
    · rw [← hr]
      refine vx_catch C.hown [] ⟨0, 10, 13, 24⟩ [⟨0, 10, 17, 26⟩] (by rw [T0]; rfl) (fun z hz => nomatch hz) (by decide) (by decide) (C.ts _ k_1156) (cst_ G (a := exN 1) (b := "java/lang/IndexOutOfBoundsException") (by decide +kernel)) hz hv hcl ?_
      refine lv_astore (lv' := [(4, .ref q9), (0, .ref (gB E + 0)), (1, .int x1), (2, .int x2), (3, .ref (gB E + 411))]) C.1 C.2.1 dL_pane_13 hl (by decide) rfl (fun ls hl => ?_)
      refine lv_iconst (v := 1) C.1 C.2.1 dL_pane_15 (by decide) ?_
      exact rtW C X rfl rfl dL_pane_16
    · rw [← hr]
      refine vx_catch C.hown [⟨0, 10, 13, 24⟩] ⟨0, 10, 17, 26⟩ [] (by rw [T0]; rfl) (fun z hz => by
          simp only [List.mem_cons, List.not_mem_nil, or_false] at hz
          subst hz
          exact ncs_ C G (by decide) k_1156 (by decide +kernel)) (by decide) (by decide) (C.ts _ k_1157) (cst_ G (a := exN 4) (b := "java/util/NoSuchElementException") (by decide +kernel)) hz hv hcl ?_
      refine lv_astore (lv' := [(4, .ref q9), (0, .ref (gB E + 0)), (1, .int x1), (2, .int x2), (3, .ref (gB E + 411))]) C.1 C.2.1 dL_pane_17 hl (by decide) rfl (fun ls hl => ?_)
      refine lv_iconst (v := 2) C.1 C.2.1 dL_pane_19 (by decide) ?_
      exact rtW C X rfl rfl dL_pane_20
theorem c_L_walker (l : Launch) (E : GE) (hT : l.stackTraces = false) {σ : Mem} {x1 x2 : Int32} {r : Int32 × Mem} (h : L_walker x1 x2 σ = some r) : CtW l E yL_walker cL_walker 5 [(0, 10, 13, 24), (0, 10, 17, 26)] 14 2 [.ref (gB E + 0), .int x1, .int x2, .ref (gB E + 411)] σ r.1 r.2 := by
  refine ofWC (cc := cL_walker) (maxL := 5) (ret := (some .int)) (by decide) rfl ?_
  intro p e s m args below meth c s₁ B hml hv
  obtain ⟨rfl, G, X⟩ := start hv
  obtain ⟨C, T0⟩ := cxofW B hml
  have hl := lv_entry [.ref (gB E + 0), .int x1, .int x2, .ref (gB E + 411)] (n := 5) (Nat.le_of_ble_eq_true rfl)
  rw [lg_entry_eq]
  generalize (lg_sl [.ref (gB E + 0), .int x1, .int x2, .ref (gB E + 411)] ++ List.replicate (5 - (lg_sl [.ref (gB E + 0), .int x1, .int x2, .ref (gB E + 411)]).length) Slot.unset).toArray = ls at hl ⊢
  unfold L_walker at h
  refine lv_aload_n C.1 C.2.1 dL_walker_0 rfl (lv_at hl 3 rfl) ?_
  refine lv_iconst (v := 0) C.1 C.2.1 dL_walker_1 (by decide) ?_
  refine lv_aload_n C.1 C.2.1 dL_walker_2 rfl (lv_at hl 0 rfl) ?_
  refine lv_iload_n C.1 C.2.1 dL_walker_3 rfl (lv_at hl 1 rfl) ?_
  refine lv_iload_n C.1 C.2.1 dL_walker_4 rfl (lv_at hl 2 rfl) ?_
  rcases bndx2 h with ⟨v, σ1, e9, h⟩ | ⟨x9, σ1, e9, h⟩
  · refine axI X (runXV C G X q_X11_walker k_1211 k_1212 k_1210 (rcX11 G X kd_0) (c_X11_walker l E hT e9) rfl hl.1 rfl (Nat.le_of_ble_eq_true rfl) ⟨Nat.le_of_ble_eq_true rfl, Nat.le_of_ble_eq_true rfl⟩ ⟨Nat.le_of_ble_eq_true rfl, Nat.le_of_ble_eq_true rfl⟩ dL_walker_5) (fun r9 H locs er X => ?_) (fun x9 H locs q9 ce er X hz hv hcl => nomatch er)
    rw [← Sum.inl.inj er, ← Option.some.inj h]
    refine lv_i2l C.1 C.2.1 dL_walker_8 rfl ?_
    refine ast_o C G X (k := 411) (x := v) kd411 in411 dL_walker_9 (fun H locs X => ?_)
    refine lv_goto (tgt := 21) C.1 C.2.1 dL_walker_10 (by decide) ?_
    refine lv_iconst (v := 0) C.1 C.2.1 dL_walker_21 (by decide) ?_
    exact rtW C X rfl rfl dL_walker_22
  · refine axI X (runXV C G X q_X11_walker k_1211 k_1212 k_1210 (rcX11 G X kd_0) (c_X11_walker l E hT e9) rfl hl.1 rfl (Nat.le_of_ble_eq_true rfl) ⟨Nat.le_of_ble_eq_true rfl, Nat.le_of_ble_eq_true rfl⟩ ⟨Nat.le_of_ble_eq_true rfl, Nat.le_of_ble_eq_true rfl⟩ dL_walker_5) (fun r9 H locs er X => nomatch er) (fun x8 H locs q9 ce er X hz hv hcl => ?_)
    rw [← Sum.inr.inj er] at hcl
    rcases hx2_s h with ⟨rfl, hr⟩ | ⟨rfl, hr⟩
    · rw [← hr]
      refine vx_catch C.hown [] ⟨0, 10, 13, 24⟩ [⟨0, 10, 17, 26⟩] (by rw [T0]; rfl) (fun z hz => nomatch hz) (by decide) (by decide) (C.ts _ k_1156) (cst_ G (a := exN 1) (b := "java/lang/IndexOutOfBoundsException") (by decide +kernel)) hz hv hcl ?_
      refine lv_astore (lv' := [(4, .ref q9), (0, .ref (gB E + 0)), (1, .int x1), (2, .int x2), (3, .ref (gB E + 411))]) C.1 C.2.1 dL_walker_13 hl (by decide) rfl (fun ls hl => ?_)
      refine lv_iconst (v := 1) C.1 C.2.1 dL_walker_15 (by decide) ?_
      exact rtW C X rfl rfl dL_walker_16
    · rw [← hr]
      refine vx_catch C.hown [⟨0, 10, 13, 24⟩] ⟨0, 10, 17, 26⟩ [] (by rw [T0]; rfl) (fun z hz => by
          simp only [List.mem_cons, List.not_mem_nil, or_false] at hz
          subst hz
          exact ncs_ C G (by decide) k_1156 (by decide +kernel)) (by decide) (by decide) (C.ts _ k_1157) (cst_ G (a := exN 4) (b := "java/util/NoSuchElementException") (by decide +kernel)) hz hv hcl ?_
      refine lv_astore (lv' := [(4, .ref q9), (0, .ref (gB E + 0)), (1, .int x1), (2, .int x2), (3, .ref (gB E + 411))]) C.1 C.2.1 dL_walker_17 hl (by decide) rfl (fun ls hl => ?_)
      refine lv_iconst (v := 2) C.1 C.2.1 dL_walker_19 (by decide) ?_
      exact rtW C X rfl rfl dL_walker_20
theorem c_L_likes (l : Launch) (E : GE) (hT : l.stackTraces = false) {σ : Mem} {x1 x2 : Int32} {r : Int32 × Mem} (h : L_likes x1 x2 σ = some r) : CtW l E yL_likes cL_likes 5 [(0, 10, 13, 24), (0, 10, 17, 13)] 15 3 [.ref (gB E + 0), .int x1, .int x2, .ref (gB E + 411)] σ r.1 r.2 := by
  refine ofWC (cc := cL_likes) (maxL := 5) (ret := (some .int)) (by decide) rfl ?_
  intro p e s m args below meth c s₁ B hml hv
  obtain ⟨rfl, G, X⟩ := start hv
  obtain ⟨C, T0⟩ := cxofW B hml
  have hl := lv_entry [.ref (gB E + 0), .int x1, .int x2, .ref (gB E + 411)] (n := 5) (Nat.le_of_ble_eq_true rfl)
  rw [lg_entry_eq]
  generalize (lg_sl [.ref (gB E + 0), .int x1, .int x2, .ref (gB E + 411)] ++ List.replicate (5 - (lg_sl [.ref (gB E + 0), .int x1, .int x2, .ref (gB E + 411)]).length) Slot.unset).toArray = ls at hl ⊢
  unfold L_likes at h
  refine lv_aload_n C.1 C.2.1 dL_likes_0 rfl (lv_at hl 3 rfl) ?_
  refine lv_iconst (v := 0) C.1 C.2.1 dL_likes_1 (by decide) ?_
  refine lv_aload_n C.1 C.2.1 dL_likes_2 rfl (lv_at hl 0 rfl) ?_
  refine lv_iload_n C.1 C.2.1 dL_likes_3 rfl (lv_at hl 1 rfl) ?_
  refine lv_iload_n C.1 C.2.1 dL_likes_4 rfl (lv_at hl 2 rfl) ?_
  rcases bndx h with ⟨v, e9, h⟩ | ⟨x9, e9, h⟩
  · refine axI X (runXV C G X q_X11_likes k_1252 k_1253 k_1251 (rcX11 G X kd_0) (c_X11_likes l E hT e9) rfl hl.1 rfl (Nat.le_of_ble_eq_true rfl) ⟨Nat.le_of_ble_eq_true rfl, Nat.le_of_ble_eq_true rfl⟩ ⟨Nat.le_of_ble_eq_true rfl, Nat.le_of_ble_eq_true rfl⟩ dL_likes_5) (fun r9 H locs er X => ?_) (fun x9 H locs q9 ce er X hz hv hcl => nomatch er)
    rw [← Sum.inl.inj er, ← Option.some.inj h]
    refine lv_i2l C.1 C.2.1 dL_likes_8 rfl ?_
    refine ast_o C G X (k := 411) (x := v) kd411 in411 dL_likes_9 (fun H locs X => ?_)
    refine lv_goto (tgt := 21) C.1 C.2.1 dL_likes_10 (by decide) ?_
    refine lv_iconst (v := 0) C.1 C.2.1 dL_likes_21 (by decide) ?_
    exact rtW C X rfl rfl dL_likes_22
  · refine axI X (runXV C G X q_X11_likes k_1252 k_1253 k_1251 (rcX11 G X kd_0) (c_X11_likes l E hT e9) rfl hl.1 rfl (Nat.le_of_ble_eq_true rfl) ⟨Nat.le_of_ble_eq_true rfl, Nat.le_of_ble_eq_true rfl⟩ ⟨Nat.le_of_ble_eq_true rfl, Nat.le_of_ble_eq_true rfl⟩ dL_likes_5) (fun r9 H locs er X => nomatch er) (fun x8 H locs q9 ce er X hz hv hcl => ?_)
    rw [← Sum.inr.inj er] at hcl
    rcases hx2_s h with ⟨rfl, hr⟩ | ⟨rfl, hr⟩
    · rw [← hr]
      refine vx_catch C.hown [] ⟨0, 10, 13, 24⟩ [⟨0, 10, 17, 13⟩] (by rw [T0]; rfl) (fun z hz => nomatch hz) (by decide) (by decide) (C.ts _ k_1156) (cst_ G (a := exN 1) (b := "java/lang/IndexOutOfBoundsException") (by decide +kernel)) hz hv hcl ?_
      refine lv_astore (lv' := [(4, .ref q9), (0, .ref (gB E + 0)), (1, .int x1), (2, .int x2), (3, .ref (gB E + 411))]) C.1 C.2.1 dL_likes_13 hl (by decide) rfl (fun ls hl => ?_)
      refine lv_iconst (v := 1) C.1 C.2.1 dL_likes_15 (by decide) ?_
      exact rtW C X rfl rfl dL_likes_16
    · rw [← hr]
      refine vx_catch C.hown [⟨0, 10, 13, 24⟩] ⟨0, 10, 17, 13⟩ [] (by rw [T0]; rfl) (fun z hz => by
          simp only [List.mem_cons, List.not_mem_nil, or_false] at hz
          subst hz
          exact ncs_ C G (by decide) k_1156 (by decide +kernel)) (by decide) (by decide) (C.ts _ k_797) (cst_ G (a := exN 2) (b := "java/lang/IllegalArgumentException") (by decide +kernel)) hz hv hcl ?_
      refine lv_astore (lv' := [(4, .ref q9), (0, .ref (gB E + 0)), (1, .int x1), (2, .int x2), (3, .ref (gB E + 411))]) C.1 C.2.1 dL_likes_17 hl (by decide) rfl (fun ls hl => ?_)
      refine lv_iconst (v := 2) C.1 C.2.1 dL_likes_19 (by decide) ?_
      exact rtW C X rfl rfl dL_likes_20
theorem c_L_will (l : Launch) (E : GE) (hT : l.stackTraces = false) {σ : Mem} {x1 x2 : Int32} {r : Int32 × Mem} (h : L_will x1 x2 σ = some r) : CtW l E yL_will cL_will 5 [(0, 10, 13, 24)] 14 2 [.ref (gB E + 0), .int x1, .int x2, .ref (gB E + 411)] σ r.1 r.2 := by
  refine ofWC (cc := cL_will) (maxL := 5) (ret := (some .int)) (by decide) rfl ?_
  intro p e s m args below meth c s₁ B hml hv
  obtain ⟨rfl, G, X⟩ := start hv
  obtain ⟨C, T0⟩ := cxofW B hml
  have hl := lv_entry [.ref (gB E + 0), .int x1, .int x2, .ref (gB E + 411)] (n := 5) (Nat.le_of_ble_eq_true rfl)
  rw [lg_entry_eq]
  generalize (lg_sl [.ref (gB E + 0), .int x1, .int x2, .ref (gB E + 411)] ++ List.replicate (5 - (lg_sl [.ref (gB E + 0), .int x1, .int x2, .ref (gB E + 411)]).length) Slot.unset).toArray = ls at hl ⊢
  unfold L_will at h
  refine lv_aload_n C.1 C.2.1 dL_will_0 rfl (lv_at hl 3 rfl) ?_
  refine lv_iconst (v := 0) C.1 C.2.1 dL_will_1 (by decide) ?_
  refine lv_aload_n C.1 C.2.1 dL_will_2 rfl (lv_at hl 0 rfl) ?_
  refine lv_iload_n C.1 C.2.1 dL_will_3 rfl (lv_at hl 1 rfl) ?_
  refine lv_iload_n C.1 C.2.1 dL_will_4 rfl (lv_at hl 2 rfl) ?_
  rcases bndx2 h with ⟨v, σ1, e9, h⟩ | ⟨x9, σ1, e9, h⟩
  · refine axI X (runXV C G X q_X11_will k_1265 k_1266 k_1264 (rcX11 G X kd_0) (c_X11_will l E hT e9) rfl hl.1 rfl (Nat.le_of_ble_eq_true rfl) ⟨Nat.le_of_ble_eq_true rfl, Nat.le_of_ble_eq_true rfl⟩ ⟨Nat.le_of_ble_eq_true rfl, Nat.le_of_ble_eq_true rfl⟩ dL_will_5) (fun r9 H locs er X => ?_) (fun x9 H locs q9 ce er X hz hv hcl => nomatch er)
    rw [← Sum.inl.inj er, ← Option.some.inj h]
    refine lv_i2l C.1 C.2.1 dL_will_8 rfl ?_
    refine ast_o C G X (k := 411) (x := v) kd411 in411 dL_will_9 (fun H locs X => ?_)
    refine lv_goto (tgt := 17) C.1 C.2.1 dL_will_10 (by decide) ?_
    refine lv_iconst (v := 0) C.1 C.2.1 dL_will_17 (by decide) ?_
    exact rtW C X rfl rfl dL_will_18
  · refine axI X (runXV C G X q_X11_will k_1265 k_1266 k_1264 (rcX11 G X kd_0) (c_X11_will l E hT e9) rfl hl.1 rfl (Nat.le_of_ble_eq_true rfl) ⟨Nat.le_of_ble_eq_true rfl, Nat.le_of_ble_eq_true rfl⟩ ⟨Nat.le_of_ble_eq_true rfl, Nat.le_of_ble_eq_true rfl⟩ dL_will_5) (fun r9 H locs er X => nomatch er) (fun x8 H locs q9 ce er X hz hv hcl => ?_)
    rw [← Sum.inr.inj er] at hcl
    obtain ⟨rfl, hr⟩ := hx1_s h
    rw [← hr]
    refine vx_catch C.hown [] ⟨0, 10, 13, 24⟩ [] (by rw [T0]; rfl) (fun z hz => nomatch hz) (by decide) (by decide) (C.ts _ k_1156) (cst_ G (a := exN 1) (b := "java/lang/IndexOutOfBoundsException") (by decide +kernel)) hz hv hcl ?_
    refine lv_astore (lv' := [(4, .ref q9), (0, .ref (gB E + 0)), (1, .int x1), (2, .int x2), (3, .ref (gB E + 411))]) C.1 C.2.1 dL_will_13 hl (by decide) rfl (fun ls hl => ?_)
    refine lv_iconst (v := 1) C.1 C.2.1 dL_will_15 (by decide) ?_
    exact rtW C X rfl rfl dL_will_16
theorem c_L_lights (l : Launch) (E : GE) (hT : l.stackTraces = false) {σ : Mem} {x1 x2 : Int32} {r : Int32 × Mem} (h : L_lights x1 x2 σ = some r) : CtW l E yL_lights cL_lights 5 [(0, 17, 20, 24)] 14 2 [.ref (gB E + 0), .int x1, .int x2, .ref (gB E + 411)] σ r.1 r.2 := by
  refine ofWC (cc := cL_lights) (maxL := 5) (ret := (some .int)) (by decide) rfl ?_
  intro p e s m args below meth c s₁ B hml hv
  obtain ⟨rfl, G, X⟩ := start hv
  obtain ⟨C, T0⟩ := cxofW B hml
  have hl := lv_entry [.ref (gB E + 0), .int x1, .int x2, .ref (gB E + 411)] (n := 5) (Nat.le_of_ble_eq_true rfl)
  rw [lg_entry_eq]
  generalize (lg_sl [.ref (gB E + 0), .int x1, .int x2, .ref (gB E + 411)] ++ List.replicate (5 - (lg_sl [.ref (gB E + 0), .int x1, .int x2, .ref (gB E + 411)]).length) Slot.unset).toArray = ls at hl ⊢
  unfold L_lights at h
  refine lv_aload_n C.1 C.2.1 dL_lights_0 rfl (lv_at hl 3 rfl) ?_
  refine lv_iconst (v := 0) C.1 C.2.1 dL_lights_1 (by decide) ?_
  refine lv_aload_n C.1 C.2.1 dL_lights_2 rfl (lv_at hl 0 rfl) ?_
  refine lv_iload_n C.1 C.2.1 dL_lights_3 rfl (lv_at hl 1 rfl) ?_
  refine lv_iload_n C.1 C.2.1 dL_lights_4 rfl (lv_at hl 2 rfl) ?_
  rcases bndx2 h with ⟨v, σ1, e9, h⟩ | ⟨x9, σ1, e9, h⟩
  · refine axI X (runXV C G X q_X11_lights k_1275 k_1276 k_1274 (rcX11 G X kd_0) (c_X11_lights l E hT e9) rfl hl.1 rfl (Nat.le_of_ble_eq_true rfl) ⟨Nat.le_of_ble_eq_true rfl, Nat.le_of_ble_eq_true rfl⟩ ⟨Nat.le_of_ble_eq_true rfl, Nat.le_of_ble_eq_true rfl⟩ dL_lights_5) (fun r9 H locs er X => ?_) (fun x9 H locs q9 ce er X hz hv hcl => nomatch er)
    rw [← Sum.inl.inj er, ← Option.some.inj h]
    refine lv_if_eq (tgt := 15) C.1 C.2.1 dL_lights_8 (by decide) (fun cv => ?_) (fun cv => ?_)
    · rw [if_pos cv]
      refine lv_lconst (v := (0 : Int32).toInt64) C.1 C.2.1 dL_lights_15 (by decide) ?_
      refine ast_o C G X (k := 411) (x := 0) kd411 in411 dL_lights_16 (fun H locs X => ?_)
      refine lv_goto (tgt := 24) C.1 C.2.1 dL_lights_17 (by decide) ?_
      refine lv_iconst (v := 0) C.1 C.2.1 dL_lights_24 (by decide) ?_
      exact rtW C X rfl rfl dL_lights_25
    · rw [if_neg cv]
      refine lv_lconst (v := (1 : Int32).toInt64) C.1 C.2.1 dL_lights_11 (by decide) ?_
      refine lv_goto (tgt := 16) C.1 C.2.1 dL_lights_12 (by decide) ?_
      refine ast_o C G X (k := 411) (x := 1) kd411 in411 dL_lights_16 (fun H locs X => ?_)
      refine lv_goto (tgt := 24) C.1 C.2.1 dL_lights_17 (by decide) ?_
      refine lv_iconst (v := 0) C.1 C.2.1 dL_lights_24 (by decide) ?_
      exact rtW C X rfl rfl dL_lights_25
  · refine axI X (runXV C G X q_X11_lights k_1275 k_1276 k_1274 (rcX11 G X kd_0) (c_X11_lights l E hT e9) rfl hl.1 rfl (Nat.le_of_ble_eq_true rfl) ⟨Nat.le_of_ble_eq_true rfl, Nat.le_of_ble_eq_true rfl⟩ ⟨Nat.le_of_ble_eq_true rfl, Nat.le_of_ble_eq_true rfl⟩ dL_lights_5) (fun r9 H locs er X => nomatch er) (fun x8 H locs q9 ce er X hz hv hcl => ?_)
    rw [← Sum.inr.inj er] at hcl
    obtain ⟨rfl, hr⟩ := hx1_s h
    rw [← hr]
    refine vx_catch C.hown [] ⟨0, 17, 20, 24⟩ [] (by rw [T0]; rfl) (fun z hz => nomatch hz) (by decide) (by decide) (C.ts _ k_1156) (cst_ G (a := exN 1) (b := "java/lang/IndexOutOfBoundsException") (by decide +kernel)) hz hv hcl ?_
    refine lv_astore (lv' := [(4, .ref q9), (0, .ref (gB E + 0)), (1, .int x1), (2, .int x2), (3, .ref (gB E + 411))]) C.1 C.2.1 dL_lights_20 hl (by decide) rfl (fun ls hl => ?_)
    refine lv_iconst (v := 1) C.1 C.2.1 dL_lights_22 (by decide) ?_
    exact rtW C X rfl rfl dL_lights_23
theorem c_L_isOpen (l : Launch) (E : GE) (hT : l.stackTraces = false) {σ : Mem} {x1 x2 : Int32} {r : Int32 × Mem} (h : L_isOpen x1 x2 σ = some r) : CtW l E yL_isOpen cL_isOpen 5 [(0, 17, 20, 24), (0, 17, 24, 13)] 15 3 [.ref (gB E + 0), .int x1, .int x2, .ref (gB E + 411)] σ r.1 r.2 := by
  refine ofWC (cc := cL_isOpen) (maxL := 5) (ret := (some .int)) (by decide) rfl ?_
  intro p e s m args below meth c s₁ B hml hv
  obtain ⟨rfl, G, X⟩ := start hv
  obtain ⟨C, T0⟩ := cxofW B hml
  have hl := lv_entry [.ref (gB E + 0), .int x1, .int x2, .ref (gB E + 411)] (n := 5) (Nat.le_of_ble_eq_true rfl)
  rw [lg_entry_eq]
  generalize (lg_sl [.ref (gB E + 0), .int x1, .int x2, .ref (gB E + 411)] ++ List.replicate (5 - (lg_sl [.ref (gB E + 0), .int x1, .int x2, .ref (gB E + 411)]).length) Slot.unset).toArray = ls at hl ⊢
  unfold L_isOpen at h
  refine lv_aload_n C.1 C.2.1 dL_isOpen_0 rfl (lv_at hl 3 rfl) ?_
  refine lv_iconst (v := 0) C.1 C.2.1 dL_isOpen_1 (by decide) ?_
  refine lv_aload_n C.1 C.2.1 dL_isOpen_2 rfl (lv_at hl 0 rfl) ?_
  refine lv_iload_n C.1 C.2.1 dL_isOpen_3 rfl (lv_at hl 1 rfl) ?_
  refine lv_iload_n C.1 C.2.1 dL_isOpen_4 rfl (lv_at hl 2 rfl) ?_
  rcases bndx h with ⟨v, e9, h⟩ | ⟨x9, e9, h⟩
  · refine axI X (runXV C G X q_X11_isOpen k_1283 k_1284 k_1282 (rcX11 G X kd_0) (c_X11_isOpen l E hT e9) rfl hl.1 rfl (Nat.le_of_ble_eq_true rfl) ⟨Nat.le_of_ble_eq_true rfl, Nat.le_of_ble_eq_true rfl⟩ ⟨Nat.le_of_ble_eq_true rfl, Nat.le_of_ble_eq_true rfl⟩ dL_isOpen_5) (fun r9 H locs er X => ?_) (fun x9 H locs q9 ce er X hz hv hcl => nomatch er)
    rw [← Sum.inl.inj er, ← Option.some.inj h]
    refine lv_if_eq (tgt := 15) C.1 C.2.1 dL_isOpen_8 (by decide) (fun cv => ?_) (fun cv => ?_)
    · rw [if_pos cv]
      refine lv_lconst (v := (0 : Int32).toInt64) C.1 C.2.1 dL_isOpen_15 (by decide) ?_
      refine ast_o C G X (k := 411) (x := 0) kd411 in411 dL_isOpen_16 (fun H locs X => ?_)
      refine lv_goto (tgt := 28) C.1 C.2.1 dL_isOpen_17 (by decide) ?_
      refine lv_iconst (v := 0) C.1 C.2.1 dL_isOpen_28 (by decide) ?_
      exact rtW C X rfl rfl dL_isOpen_29
    · rw [if_neg cv]
      refine lv_lconst (v := (1 : Int32).toInt64) C.1 C.2.1 dL_isOpen_11 (by decide) ?_
      refine lv_goto (tgt := 16) C.1 C.2.1 dL_isOpen_12 (by decide) ?_
      refine ast_o C G X (k := 411) (x := 1) kd411 in411 dL_isOpen_16 (fun H locs X => ?_)
      refine lv_goto (tgt := 28) C.1 C.2.1 dL_isOpen_17 (by decide) ?_
      refine lv_iconst (v := 0) C.1 C.2.1 dL_isOpen_28 (by decide) ?_
      exact rtW C X rfl rfl dL_isOpen_29
  · refine axI X (runXV C G X q_X11_isOpen k_1283 k_1284 k_1282 (rcX11 G X kd_0) (c_X11_isOpen l E hT e9) rfl hl.1 rfl (Nat.le_of_ble_eq_true rfl) ⟨Nat.le_of_ble_eq_true rfl, Nat.le_of_ble_eq_true rfl⟩ ⟨Nat.le_of_ble_eq_true rfl, Nat.le_of_ble_eq_true rfl⟩ dL_isOpen_5) (fun r9 H locs er X => nomatch er) (fun x8 H locs q9 ce er X hz hv hcl => ?_)
    rw [← Sum.inr.inj er] at hcl
    rcases hx2_s h with ⟨rfl, hr⟩ | ⟨rfl, hr⟩
    · rw [← hr]
      refine vx_catch C.hown [] ⟨0, 17, 20, 24⟩ [⟨0, 17, 24, 13⟩] (by rw [T0]; rfl) (fun z hz => nomatch hz) (by decide) (by decide) (C.ts _ k_1156) (cst_ G (a := exN 1) (b := "java/lang/IndexOutOfBoundsException") (by decide +kernel)) hz hv hcl ?_
      refine lv_astore (lv' := [(4, .ref q9), (0, .ref (gB E + 0)), (1, .int x1), (2, .int x2), (3, .ref (gB E + 411))]) C.1 C.2.1 dL_isOpen_20 hl (by decide) rfl (fun ls hl => ?_)
      refine lv_iconst (v := 1) C.1 C.2.1 dL_isOpen_22 (by decide) ?_
      exact rtW C X rfl rfl dL_isOpen_23
    · rw [← hr]
      refine vx_catch C.hown [⟨0, 17, 20, 24⟩] ⟨0, 17, 24, 13⟩ [] (by rw [T0]; rfl) (fun z hz => by
          simp only [List.mem_cons, List.not_mem_nil, or_false] at hz
          subst hz
          exact ncs_ C G (by decide) k_1156 (by decide +kernel)) (by decide) (by decide) (C.ts _ k_797) (cst_ G (a := exN 2) (b := "java/lang/IllegalArgumentException") (by decide +kernel)) hz hv hcl ?_
      refine lv_astore (lv' := [(4, .ref q9), (0, .ref (gB E + 0)), (1, .int x1), (2, .int x2), (3, .ref (gB E + 411))]) C.1 C.2.1 dL_isOpen_24 hl (by decide) rfl (fun ls hl => ?_)
      refine lv_iconst (v := 2) C.1 C.2.1 dL_isOpen_26 (by decide) ?_
      exact rtW C X rfl rfl dL_isOpen_27
theorem c_L_hours (l : Launch) (E : GE) (hT : l.stackTraces = false) {σ : Mem} {x1 : Int32} {r : Int32 × Mem} (h : L_hours x1 σ = some r) : CtW l E yL_hours cL_hours 4 [(0, 9, 12, 13)] 14 1 [.ref (gB E + 0), .int x1, .ref (gB E + 411)] σ r.1 r.2 := by
  refine ofWC (cc := cL_hours) (maxL := 4) (ret := (some .int)) (by decide) rfl ?_
  intro p e s m args below meth c s₁ B hml hv
  obtain ⟨rfl, G, X⟩ := start hv
  obtain ⟨C, T0⟩ := cxofW B hml
  have hl := lv_entry [.ref (gB E + 0), .int x1, .ref (gB E + 411)] (n := 4) (Nat.le_of_ble_eq_true rfl)
  rw [lg_entry_eq]
  generalize (lg_sl [.ref (gB E + 0), .int x1, .ref (gB E + 411)] ++ List.replicate (4 - (lg_sl [.ref (gB E + 0), .int x1, .ref (gB E + 411)]).length) Slot.unset).toArray = ls at hl ⊢
  unfold L_hours at h
  refine lv_aload_n C.1 C.2.1 dL_hours_0 rfl (lv_at hl 2 rfl) ?_
  refine lv_iconst (v := 0) C.1 C.2.1 dL_hours_1 (by decide) ?_
  refine lv_aload_n C.1 C.2.1 dL_hours_2 rfl (lv_at hl 0 rfl) ?_
  refine lv_iload_n C.1 C.2.1 dL_hours_3 rfl (lv_at hl 1 rfl) ?_
  rcases bndx2 h with ⟨v, σ1, e9, h⟩ | ⟨x9, σ1, e9, h⟩
  · refine axI X (runXV C G X q_X11_hours k_1299 k_1300 k_1298 (rcX11 G X kd_0) (c_X11_hours l E hT e9) rfl hl.1 rfl (Nat.le_of_ble_eq_true rfl) ⟨Nat.le_of_ble_eq_true rfl, Nat.le_of_ble_eq_true rfl⟩ ⟨Nat.le_of_ble_eq_true rfl, Nat.le_of_ble_eq_true rfl⟩ dL_hours_4) (fun r9 H locs er X => ?_) (fun x9 H locs q9 ce er X hz hv hcl => nomatch er)
    rw [← Sum.inl.inj er, ← Option.some.inj h]
    refine lv_i2l C.1 C.2.1 dL_hours_7 rfl ?_
    refine ast_o C G X (k := 411) (x := v) kd411 in411 dL_hours_8 (fun H locs X => ?_)
    refine lv_goto (tgt := 15) C.1 C.2.1 dL_hours_9 (by decide) ?_
    refine lv_iconst (v := 0) C.1 C.2.1 dL_hours_15 (by decide) ?_
    exact rtW C X rfl rfl dL_hours_16
  · refine axI X (runXV C G X q_X11_hours k_1299 k_1300 k_1298 (rcX11 G X kd_0) (c_X11_hours l E hT e9) rfl hl.1 rfl (Nat.le_of_ble_eq_true rfl) ⟨Nat.le_of_ble_eq_true rfl, Nat.le_of_ble_eq_true rfl⟩ ⟨Nat.le_of_ble_eq_true rfl, Nat.le_of_ble_eq_true rfl⟩ dL_hours_4) (fun r9 H locs er X => nomatch er) (fun x8 H locs q9 ce er X hz hv hcl => ?_)
    rw [← Sum.inr.inj er] at hcl
    obtain ⟨rfl, hr⟩ := hx1_s h
    rw [← hr]
    refine vx_catch C.hown [] ⟨0, 9, 12, 13⟩ [] (by rw [T0]; rfl) (fun z hz => nomatch hz) (by decide) (by decide) (C.ts _ k_797) (cst_ G (a := exN 2) (b := "java/lang/IllegalArgumentException") (by decide +kernel)) hz hv hcl ?_
    refine lv_astore_n (lv' := [(3, .ref q9), (0, .ref (gB E + 0)), (1, .int x1), (2, .ref (gB E + 411))]) C.1 C.2.1 dL_hours_12 rfl hl (by decide) rfl (fun ls hl => ?_)
    refine lv_iconst (v := 1) C.1 C.2.1 dL_hours_13 (by decide) ?_
    exact rtW C X rfl rfl dL_hours_14
theorem c_L_heads (l : Launch) (E : GE) (hT : l.stackTraces = false) {σ : Mem} {x1 x2 : Int32} {r : Int32 × Mem} (h : L_heads x1 x2 σ = some r) : CtW l E yL_heads cL_heads 5 [(0, 10, 13, 24)] 14 2 [.ref (gB E + 0), .int x1, .int x2, .ref (gB E + 411)] σ r.1 r.2 := by
  refine ofWC (cc := cL_heads) (maxL := 5) (ret := (some .int)) (by decide) rfl ?_
  intro p e s m args below meth c s₁ B hml hv
  obtain ⟨rfl, G, X⟩ := start hv
  obtain ⟨C, T0⟩ := cxofW B hml
  have hl := lv_entry [.ref (gB E + 0), .int x1, .int x2, .ref (gB E + 411)] (n := 5) (Nat.le_of_ble_eq_true rfl)
  rw [lg_entry_eq]
  generalize (lg_sl [.ref (gB E + 0), .int x1, .int x2, .ref (gB E + 411)] ++ List.replicate (5 - (lg_sl [.ref (gB E + 0), .int x1, .int x2, .ref (gB E + 411)]).length) Slot.unset).toArray = ls at hl ⊢
  unfold L_heads at h
  refine lv_aload_n C.1 C.2.1 dL_heads_0 rfl (lv_at hl 3 rfl) ?_
  refine lv_iconst (v := 0) C.1 C.2.1 dL_heads_1 (by decide) ?_
  refine lv_aload_n C.1 C.2.1 dL_heads_2 rfl (lv_at hl 0 rfl) ?_
  refine lv_iload_n C.1 C.2.1 dL_heads_3 rfl (lv_at hl 1 rfl) ?_
  refine lv_iload_n C.1 C.2.1 dL_heads_4 rfl (lv_at hl 2 rfl) ?_
  rcases bndx2 h with ⟨v, σ1, e9, h⟩ | ⟨x9, σ1, e9, h⟩
  · refine axI X (runXV C G X q_X11_heads k_1316 k_1317 k_1315 (rcX11 G X kd_0) (c_X11_heads l E hT e9) rfl hl.1 rfl (Nat.le_of_ble_eq_true rfl) ⟨Nat.le_of_ble_eq_true rfl, Nat.le_of_ble_eq_true rfl⟩ ⟨Nat.le_of_ble_eq_true rfl, Nat.le_of_ble_eq_true rfl⟩ dL_heads_5) (fun r9 H locs er X => ?_) (fun x9 H locs q9 ce er X hz hv hcl => nomatch er)
    rw [← Sum.inl.inj er, ← Option.some.inj h]
    refine lv_i2l C.1 C.2.1 dL_heads_8 rfl ?_
    refine ast_o C G X (k := 411) (x := v) kd411 in411 dL_heads_9 (fun H locs X => ?_)
    refine lv_goto (tgt := 17) C.1 C.2.1 dL_heads_10 (by decide) ?_
    refine lv_iconst (v := 0) C.1 C.2.1 dL_heads_17 (by decide) ?_
    exact rtW C X rfl rfl dL_heads_18
  · refine axI X (runXV C G X q_X11_heads k_1316 k_1317 k_1315 (rcX11 G X kd_0) (c_X11_heads l E hT e9) rfl hl.1 rfl (Nat.le_of_ble_eq_true rfl) ⟨Nat.le_of_ble_eq_true rfl, Nat.le_of_ble_eq_true rfl⟩ ⟨Nat.le_of_ble_eq_true rfl, Nat.le_of_ble_eq_true rfl⟩ dL_heads_5) (fun r9 H locs er X => nomatch er) (fun x8 H locs q9 ce er X hz hv hcl => ?_)
    rw [← Sum.inr.inj er] at hcl
    obtain ⟨rfl, hr⟩ := hx1_s h
    rw [← hr]
    refine vx_catch C.hown [] ⟨0, 10, 13, 24⟩ [] (by rw [T0]; rfl) (fun z hz => nomatch hz) (by decide) (by decide) (C.ts _ k_1156) (cst_ G (a := exN 1) (b := "java/lang/IndexOutOfBoundsException") (by decide +kernel)) hz hv hcl ?_
    refine lv_astore (lv' := [(4, .ref q9), (0, .ref (gB E + 0)), (1, .int x1), (2, .int x2), (3, .ref (gB E + 411))]) C.1 C.2.1 dL_heads_13 hl (by decide) rfl (fun ls hl => ?_)
    refine lv_iconst (v := 1) C.1 C.2.1 dL_heads_15 (by decide) ?_
    exact rtW C X rfl rfl dL_heads_16
theorem c_L_strike (l : Launch) (E : GE) (hT : l.stackTraces = false) {σ : Mem} {x1 : Int32} {r : Int32 × Mem} (h : L_strike x1 σ = some r) : CtW l E yL_strike cL_strike 4 [(0, 9, 12, 24), (0, 9, 15, 54)] 14 2 [.ref (gB E + 0), .int x1, .ref (gB E + 411)] σ r.1 r.2 := by
  refine ofWC (cc := cL_strike) (maxL := 4) (ret := (some .int)) (by decide) rfl ?_
  intro p e s m args below meth c s₁ B hml hv
  obtain ⟨rfl, G, X⟩ := start hv
  obtain ⟨C, T0⟩ := cxofW B hml
  have hl := lv_entry [.ref (gB E + 0), .int x1, .ref (gB E + 411)] (n := 4) (Nat.le_of_ble_eq_true rfl)
  rw [lg_entry_eq]
  generalize (lg_sl [.ref (gB E + 0), .int x1, .ref (gB E + 411)] ++ List.replicate (4 - (lg_sl [.ref (gB E + 0), .int x1, .ref (gB E + 411)]).length) Slot.unset).toArray = ls at hl ⊢
  unfold L_strike at h
  refine lv_aload_n C.1 C.2.1 dL_strike_0 rfl (lv_at hl 2 rfl) ?_
  refine lv_iconst (v := 0) C.1 C.2.1 dL_strike_1 (by decide) ?_
  refine lv_aload_n C.1 C.2.1 dL_strike_2 rfl (lv_at hl 0 rfl) ?_
  refine lv_iload_n C.1 C.2.1 dL_strike_3 rfl (lv_at hl 1 rfl) ?_
  rcases bndx2 h with ⟨v, σ1, e9, h⟩ | ⟨x9, σ1, e9, h⟩
  · refine axI X (runXV C G X q_X11_strike k_1325 k_1326 k_1324 (rcX11 G X kd_0) (c_X11_strike l E hT e9) rfl hl.1 rfl (Nat.le_of_ble_eq_true rfl) ⟨Nat.le_of_ble_eq_true rfl, Nat.le_of_ble_eq_true rfl⟩ ⟨Nat.le_of_ble_eq_true rfl, Nat.le_of_ble_eq_true rfl⟩ dL_strike_4) (fun r9 H locs er X => ?_) (fun x9 H locs q9 ce er X hz hv hcl => nomatch er)
    rw [← Sum.inl.inj er, ← Option.some.inj h]
    refine lv_i2l C.1 C.2.1 dL_strike_7 rfl ?_
    refine ast_o C G X (k := 411) (x := v) kd411 in411 dL_strike_8 (fun H locs X => ?_)
    refine lv_goto (tgt := 18) C.1 C.2.1 dL_strike_9 (by decide) ?_
    refine lv_iconst (v := 0) C.1 C.2.1 dL_strike_18 (by decide) ?_
    exact rtW C X rfl rfl dL_strike_19
  · refine axI X (runXV C G X q_X11_strike k_1325 k_1326 k_1324 (rcX11 G X kd_0) (c_X11_strike l E hT e9) rfl hl.1 rfl (Nat.le_of_ble_eq_true rfl) ⟨Nat.le_of_ble_eq_true rfl, Nat.le_of_ble_eq_true rfl⟩ ⟨Nat.le_of_ble_eq_true rfl, Nat.le_of_ble_eq_true rfl⟩ dL_strike_4) (fun r9 H locs er X => nomatch er) (fun x8 H locs q9 ce er X hz hv hcl => ?_)
    rw [← Sum.inr.inj er] at hcl
    rcases hx2_s h with ⟨rfl, hr⟩ | ⟨rfl, hr⟩
    · rw [← hr]
      refine vx_catch C.hown [] ⟨0, 9, 12, 24⟩ [⟨0, 9, 15, 54⟩] (by rw [T0]; rfl) (fun z hz => nomatch hz) (by decide) (by decide) (C.ts _ k_1156) (cst_ G (a := exN 1) (b := "java/lang/IndexOutOfBoundsException") (by decide +kernel)) hz hv hcl ?_
      refine lv_astore_n (lv' := [(3, .ref q9), (0, .ref (gB E + 0)), (1, .int x1), (2, .ref (gB E + 411))]) C.1 C.2.1 dL_strike_12 rfl hl (by decide) rfl (fun ls hl => ?_)
      refine lv_iconst (v := 1) C.1 C.2.1 dL_strike_13 (by decide) ?_
      exact rtW C X rfl rfl dL_strike_14
    · rw [← hr]
      refine vx_catch C.hown [⟨0, 9, 12, 24⟩] ⟨0, 9, 15, 54⟩ [] (by rw [T0]; rfl) (fun z hz => by
          simp only [List.mem_cons, List.not_mem_nil, or_false] at hz
          subst hz
          exact ncs_ C G (by decide) k_1156 (by decide +kernel)) (by decide) (by decide) (C.ts _ k_1323) (cst_ G (a := exN 3) (b := "java/lang/IllegalStateException") (by decide +kernel)) hz hv hcl ?_
      refine lv_astore_n (lv' := [(3, .ref q9), (0, .ref (gB E + 0)), (1, .int x1), (2, .ref (gB E + 411))]) C.1 C.2.1 dL_strike_15 rfl hl (by decide) rfl (fun ls hl => ?_)
      refine lv_iconst (v := 2) C.1 C.2.1 dL_strike_16 (by decide) ?_
      exact rtW C X rfl rfl dL_strike_17
theorem c_L_snuff (l : Launch) (E : GE) (hT : l.stackTraces = false) {σ : Mem} {x1 : Int32} {r : Int32 × Mem} (h : L_snuff x1 σ = some r) : CtW l E yL_snuff cL_snuff 4 [(0, 9, 12, 24), (0, 9, 15, 54)] 14 2 [.ref (gB E + 0), .int x1, .ref (gB E + 411)] σ r.1 r.2 := by
  refine ofWC (cc := cL_snuff) (maxL := 4) (ret := (some .int)) (by decide) rfl ?_
  intro p e s m args below meth c s₁ B hml hv
  obtain ⟨rfl, G, X⟩ := start hv
  obtain ⟨C, T0⟩ := cxofW B hml
  have hl := lv_entry [.ref (gB E + 0), .int x1, .ref (gB E + 411)] (n := 4) (Nat.le_of_ble_eq_true rfl)
  rw [lg_entry_eq]
  generalize (lg_sl [.ref (gB E + 0), .int x1, .ref (gB E + 411)] ++ List.replicate (4 - (lg_sl [.ref (gB E + 0), .int x1, .ref (gB E + 411)]).length) Slot.unset).toArray = ls at hl ⊢
  unfold L_snuff at h
  refine lv_aload_n C.1 C.2.1 dL_snuff_0 rfl (lv_at hl 2 rfl) ?_
  refine lv_iconst (v := 0) C.1 C.2.1 dL_snuff_1 (by decide) ?_
  refine lv_aload_n C.1 C.2.1 dL_snuff_2 rfl (lv_at hl 0 rfl) ?_
  refine lv_iload_n C.1 C.2.1 dL_snuff_3 rfl (lv_at hl 1 rfl) ?_
  rcases bndx2 h with ⟨v, σ1, e9, h⟩ | ⟨x9, σ1, e9, h⟩
  · refine axI X (runXV C G X q_X11_snuff k_1353 k_1354 k_1352 (rcX11 G X kd_0) (c_X11_snuff l E hT e9) rfl hl.1 rfl (Nat.le_of_ble_eq_true rfl) ⟨Nat.le_of_ble_eq_true rfl, Nat.le_of_ble_eq_true rfl⟩ ⟨Nat.le_of_ble_eq_true rfl, Nat.le_of_ble_eq_true rfl⟩ dL_snuff_4) (fun r9 H locs er X => ?_) (fun x9 H locs q9 ce er X hz hv hcl => nomatch er)
    rw [← Sum.inl.inj er, ← Option.some.inj h]
    refine lv_i2l C.1 C.2.1 dL_snuff_7 rfl ?_
    refine ast_o C G X (k := 411) (x := v) kd411 in411 dL_snuff_8 (fun H locs X => ?_)
    refine lv_goto (tgt := 18) C.1 C.2.1 dL_snuff_9 (by decide) ?_
    refine lv_iconst (v := 0) C.1 C.2.1 dL_snuff_18 (by decide) ?_
    exact rtW C X rfl rfl dL_snuff_19
  · refine axI X (runXV C G X q_X11_snuff k_1353 k_1354 k_1352 (rcX11 G X kd_0) (c_X11_snuff l E hT e9) rfl hl.1 rfl (Nat.le_of_ble_eq_true rfl) ⟨Nat.le_of_ble_eq_true rfl, Nat.le_of_ble_eq_true rfl⟩ ⟨Nat.le_of_ble_eq_true rfl, Nat.le_of_ble_eq_true rfl⟩ dL_snuff_4) (fun r9 H locs er X => nomatch er) (fun x8 H locs q9 ce er X hz hv hcl => ?_)
    rw [← Sum.inr.inj er] at hcl
    rcases hx2_s h with ⟨rfl, hr⟩ | ⟨rfl, hr⟩
    · rw [← hr]
      refine vx_catch C.hown [] ⟨0, 9, 12, 24⟩ [⟨0, 9, 15, 54⟩] (by rw [T0]; rfl) (fun z hz => nomatch hz) (by decide) (by decide) (C.ts _ k_1156) (cst_ G (a := exN 1) (b := "java/lang/IndexOutOfBoundsException") (by decide +kernel)) hz hv hcl ?_
      refine lv_astore_n (lv' := [(3, .ref q9), (0, .ref (gB E + 0)), (1, .int x1), (2, .ref (gB E + 411))]) C.1 C.2.1 dL_snuff_12 rfl hl (by decide) rfl (fun ls hl => ?_)
      refine lv_iconst (v := 1) C.1 C.2.1 dL_snuff_13 (by decide) ?_
      exact rtW C X rfl rfl dL_snuff_14
    · rw [← hr]
      refine vx_catch C.hown [⟨0, 9, 12, 24⟩] ⟨0, 9, 15, 54⟩ [] (by rw [T0]; rfl) (fun z hz => by
          simp only [List.mem_cons, List.not_mem_nil, or_false] at hz
          subst hz
          exact ncs_ C G (by decide) k_1156 (by decide +kernel)) (by decide) (by decide) (C.ts _ k_1323) (cst_ G (a := exN 3) (b := "java/lang/IllegalStateException") (by decide +kernel)) hz hv hcl ?_
      refine lv_astore_n (lv' := [(3, .ref q9), (0, .ref (gB E + 0)), (1, .int x1), (2, .ref (gB E + 411))]) C.1 C.2.1 dL_snuff_15 rfl hl (by decide) rfl (fun ls hl => ?_)
      refine lv_iconst (v := 2) C.1 C.2.1 dL_snuff_16 (by decide) ?_
      exact rtW C X rfl rfl dL_snuff_17
theorem c_L_oil (l : Launch) (E : GE) (hT : l.stackTraces = false) {σ : Mem} {x1 x2 : Int32} {r : Int32 × Mem} (h : L_oil x1 x2 σ = some r) : CtW l E yL_oil cL_oil 5 [(0, 10, 13, 24), (0, 10, 17, 13)] 14 2 [.ref (gB E + 0), .int x1, .int x2, .ref (gB E + 411)] σ r.1 r.2 := by
  refine ofWC (cc := cL_oil) (maxL := 5) (ret := (some .int)) (by decide) rfl ?_
  intro p e s m args below meth c s₁ B hml hv
  obtain ⟨rfl, G, X⟩ := start hv
  obtain ⟨C, T0⟩ := cxofW B hml
  have hl := lv_entry [.ref (gB E + 0), .int x1, .int x2, .ref (gB E + 411)] (n := 5) (Nat.le_of_ble_eq_true rfl)
  rw [lg_entry_eq]
  generalize (lg_sl [.ref (gB E + 0), .int x1, .int x2, .ref (gB E + 411)] ++ List.replicate (5 - (lg_sl [.ref (gB E + 0), .int x1, .int x2, .ref (gB E + 411)]).length) Slot.unset).toArray = ls at hl ⊢
  unfold L_oil at h
  refine lv_aload_n C.1 C.2.1 dL_oil_0 rfl (lv_at hl 3 rfl) ?_
  refine lv_iconst (v := 0) C.1 C.2.1 dL_oil_1 (by decide) ?_
  refine lv_aload_n C.1 C.2.1 dL_oil_2 rfl (lv_at hl 0 rfl) ?_
  refine lv_iload_n C.1 C.2.1 dL_oil_3 rfl (lv_at hl 1 rfl) ?_
  refine lv_iload_n C.1 C.2.1 dL_oil_4 rfl (lv_at hl 2 rfl) ?_
  rcases bndx2 h with ⟨v, σ1, e9, h⟩ | ⟨x9, σ1, e9, h⟩
  · refine axI X (runXV C G X q_X11_oil k_1363 k_1364 k_1362 (rcX11 G X kd_0) (c_X11_oil l E hT e9) rfl hl.1 rfl (Nat.le_of_ble_eq_true rfl) ⟨Nat.le_of_ble_eq_true rfl, Nat.le_of_ble_eq_true rfl⟩ ⟨Nat.le_of_ble_eq_true rfl, Nat.le_of_ble_eq_true rfl⟩ dL_oil_5) (fun r9 H locs er X => ?_) (fun x9 H locs q9 ce er X hz hv hcl => nomatch er)
    rw [← Sum.inl.inj er, ← Option.some.inj h]
    refine lv_i2l C.1 C.2.1 dL_oil_8 rfl ?_
    refine ast_o C G X (k := 411) (x := v) kd411 in411 dL_oil_9 (fun H locs X => ?_)
    refine lv_goto (tgt := 21) C.1 C.2.1 dL_oil_10 (by decide) ?_
    refine lv_iconst (v := 0) C.1 C.2.1 dL_oil_21 (by decide) ?_
    exact rtW C X rfl rfl dL_oil_22
  · refine axI X (runXV C G X q_X11_oil k_1363 k_1364 k_1362 (rcX11 G X kd_0) (c_X11_oil l E hT e9) rfl hl.1 rfl (Nat.le_of_ble_eq_true rfl) ⟨Nat.le_of_ble_eq_true rfl, Nat.le_of_ble_eq_true rfl⟩ ⟨Nat.le_of_ble_eq_true rfl, Nat.le_of_ble_eq_true rfl⟩ dL_oil_5) (fun r9 H locs er X => nomatch er) (fun x8 H locs q9 ce er X hz hv hcl => ?_)
    rw [← Sum.inr.inj er] at hcl
    rcases hx2_s h with ⟨rfl, hr⟩ | ⟨rfl, hr⟩
    · rw [← hr]
      refine vx_catch C.hown [] ⟨0, 10, 13, 24⟩ [⟨0, 10, 17, 13⟩] (by rw [T0]; rfl) (fun z hz => nomatch hz) (by decide) (by decide) (C.ts _ k_1156) (cst_ G (a := exN 1) (b := "java/lang/IndexOutOfBoundsException") (by decide +kernel)) hz hv hcl ?_
      refine lv_astore (lv' := [(4, .ref q9), (0, .ref (gB E + 0)), (1, .int x1), (2, .int x2), (3, .ref (gB E + 411))]) C.1 C.2.1 dL_oil_13 hl (by decide) rfl (fun ls hl => ?_)
      refine lv_iconst (v := 1) C.1 C.2.1 dL_oil_15 (by decide) ?_
      exact rtW C X rfl rfl dL_oil_16
    · rw [← hr]
      refine vx_catch C.hown [⟨0, 10, 13, 24⟩] ⟨0, 10, 17, 13⟩ [] (by rw [T0]; rfl) (fun z hz => by
          simp only [List.mem_cons, List.not_mem_nil, or_false] at hz
          subst hz
          exact ncs_ C G (by decide) k_1156 (by decide +kernel)) (by decide) (by decide) (C.ts _ k_797) (cst_ G (a := exN 2) (b := "java/lang/IllegalArgumentException") (by decide +kernel)) hz hv hcl ?_
      refine lv_astore (lv' := [(4, .ref q9), (0, .ref (gB E + 0)), (1, .int x1), (2, .int x2), (3, .ref (gB E + 411))]) C.1 C.2.1 dL_oil_17 hl (by decide) rfl (fun ls hl => ?_)
      refine lv_iconst (v := 2) C.1 C.2.1 dL_oil_19 (by decide) ?_
      exact rtW C X rfl rfl dL_oil_20
theorem c_L_taper (l : Launch) (E : GE) (hT : l.stackTraces = false) {σ : Mem} {x1 x2 : Int32} {r : Int32 × Mem} (h : L_taper x1 x2 σ = some r) : CtW l E yL_taper cL_taper 5 [(0, 10, 13, 24), (0, 10, 17, 13)] 14 2 [.ref (gB E + 0), .int x1, .int x2, .ref (gB E + 411)] σ r.1 r.2 := by
  refine ofWC (cc := cL_taper) (maxL := 5) (ret := (some .int)) (by decide) rfl ?_
  intro p e s m args below meth c s₁ B hml hv
  obtain ⟨rfl, G, X⟩ := start hv
  obtain ⟨C, T0⟩ := cxofW B hml
  have hl := lv_entry [.ref (gB E + 0), .int x1, .int x2, .ref (gB E + 411)] (n := 5) (Nat.le_of_ble_eq_true rfl)
  rw [lg_entry_eq]
  generalize (lg_sl [.ref (gB E + 0), .int x1, .int x2, .ref (gB E + 411)] ++ List.replicate (5 - (lg_sl [.ref (gB E + 0), .int x1, .int x2, .ref (gB E + 411)]).length) Slot.unset).toArray = ls at hl ⊢
  unfold L_taper at h
  refine lv_aload_n C.1 C.2.1 dL_taper_0 rfl (lv_at hl 3 rfl) ?_
  refine lv_iconst (v := 0) C.1 C.2.1 dL_taper_1 (by decide) ?_
  refine lv_aload_n C.1 C.2.1 dL_taper_2 rfl (lv_at hl 0 rfl) ?_
  refine lv_iload_n C.1 C.2.1 dL_taper_3 rfl (lv_at hl 1 rfl) ?_
  refine lv_iload_n C.1 C.2.1 dL_taper_4 rfl (lv_at hl 2 rfl) ?_
  rcases bndx2 h with ⟨v, σ1, e9, h⟩ | ⟨x9, σ1, e9, h⟩
  · refine axI X (runXV C G X q_X11_taper k_1371 k_1372 k_1370 (rcX11 G X kd_0) (c_X11_taper l E hT e9) rfl hl.1 rfl (Nat.le_of_ble_eq_true rfl) ⟨Nat.le_of_ble_eq_true rfl, Nat.le_of_ble_eq_true rfl⟩ ⟨Nat.le_of_ble_eq_true rfl, Nat.le_of_ble_eq_true rfl⟩ dL_taper_5) (fun r9 H locs er X => ?_) (fun x9 H locs q9 ce er X hz hv hcl => nomatch er)
    rw [← Sum.inl.inj er, ← Option.some.inj h]
    refine lv_i2l C.1 C.2.1 dL_taper_8 rfl ?_
    refine ast_o C G X (k := 411) (x := v) kd411 in411 dL_taper_9 (fun H locs X => ?_)
    refine lv_goto (tgt := 21) C.1 C.2.1 dL_taper_10 (by decide) ?_
    refine lv_iconst (v := 0) C.1 C.2.1 dL_taper_21 (by decide) ?_
    exact rtW C X rfl rfl dL_taper_22
  · refine axI X (runXV C G X q_X11_taper k_1371 k_1372 k_1370 (rcX11 G X kd_0) (c_X11_taper l E hT e9) rfl hl.1 rfl (Nat.le_of_ble_eq_true rfl) ⟨Nat.le_of_ble_eq_true rfl, Nat.le_of_ble_eq_true rfl⟩ ⟨Nat.le_of_ble_eq_true rfl, Nat.le_of_ble_eq_true rfl⟩ dL_taper_5) (fun r9 H locs er X => nomatch er) (fun x8 H locs q9 ce er X hz hv hcl => ?_)
    rw [← Sum.inr.inj er] at hcl
    rcases hx2_s h with ⟨rfl, hr⟩ | ⟨rfl, hr⟩
    · rw [← hr]
      refine vx_catch C.hown [] ⟨0, 10, 13, 24⟩ [⟨0, 10, 17, 13⟩] (by rw [T0]; rfl) (fun z hz => nomatch hz) (by decide) (by decide) (C.ts _ k_1156) (cst_ G (a := exN 1) (b := "java/lang/IndexOutOfBoundsException") (by decide +kernel)) hz hv hcl ?_
      refine lv_astore (lv' := [(4, .ref q9), (0, .ref (gB E + 0)), (1, .int x1), (2, .int x2), (3, .ref (gB E + 411))]) C.1 C.2.1 dL_taper_13 hl (by decide) rfl (fun ls hl => ?_)
      refine lv_iconst (v := 1) C.1 C.2.1 dL_taper_15 (by decide) ?_
      exact rtW C X rfl rfl dL_taper_16
    · rw [← hr]
      refine vx_catch C.hown [⟨0, 10, 13, 24⟩] ⟨0, 10, 17, 13⟩ [] (by rw [T0]; rfl) (fun z hz => by
          simp only [List.mem_cons, List.not_mem_nil, or_false] at hz
          subst hz
          exact ncs_ C G (by decide) k_1156 (by decide +kernel)) (by decide) (by decide) (C.ts _ k_797) (cst_ G (a := exN 2) (b := "java/lang/IllegalArgumentException") (by decide +kernel)) hz hv hcl ?_
      refine lv_astore (lv' := [(4, .ref q9), (0, .ref (gB E + 0)), (1, .int x1), (2, .int x2), (3, .ref (gB E + 411))]) C.1 C.2.1 dL_taper_17 hl (by decide) rfl (fun ls hl => ?_)
      refine lv_iconst (v := 2) C.1 C.2.1 dL_taper_19 (by decide) ?_
      exact rtW C X rfl rfl dL_taper_20
theorem c_L_like (l : Launch) (E : GE) (hT : l.stackTraces = false) {σ : Mem} {x1 x2 x3 : Int32} {r : Int32 × Mem} (h : L_like x1 x2 x3 σ = some r) : CtW l E yL_like cL_like 6 [(0, 12, 15, 24), (0, 12, 19, 13)] 15 4 [.ref (gB E + 0), .int x1, .int x2, .int x3, .ref (gB E + 411)] σ r.1 r.2 := by
  refine ofWC (cc := cL_like) (maxL := 6) (ret := (some .int)) (by decide) rfl ?_
  intro p e s m args below meth c s₁ B hml hv
  obtain ⟨rfl, G, X⟩ := start hv
  obtain ⟨C, T0⟩ := cxofW B hml
  have hl := lv_entry [.ref (gB E + 0), .int x1, .int x2, .int x3, .ref (gB E + 411)] (n := 6) (Nat.le_of_ble_eq_true rfl)
  rw [lg_entry_eq]
  generalize (lg_sl [.ref (gB E + 0), .int x1, .int x2, .int x3, .ref (gB E + 411)] ++ List.replicate (6 - (lg_sl [.ref (gB E + 0), .int x1, .int x2, .int x3, .ref (gB E + 411)]).length) Slot.unset).toArray = ls at hl ⊢
  unfold L_like at h
  refine lv_aload C.1 C.2.1 dL_like_0 (lv_at hl 4 rfl) ?_
  refine lv_iconst (v := 0) C.1 C.2.1 dL_like_2 (by decide) ?_
  refine lv_aload_n C.1 C.2.1 dL_like_3 rfl (lv_at hl 0 rfl) ?_
  refine lv_iload_n C.1 C.2.1 dL_like_4 rfl (lv_at hl 1 rfl) ?_
  refine lv_iload_n C.1 C.2.1 dL_like_5 rfl (lv_at hl 2 rfl) ?_
  refine lv_iload_n C.1 C.2.1 dL_like_6 rfl (lv_at hl 3 rfl) ?_
  rcases bndx2 h with ⟨v, σ1, e9, h⟩ | ⟨x9, σ1, e9, h⟩
  · refine axI X (runXV C G X q_X11_like k_1378 k_1379 k_1377 (rcX11 G X kd_0) (c_X11_like l E hT e9) rfl hl.1 rfl (Nat.le_of_ble_eq_true rfl) ⟨Nat.le_of_ble_eq_true rfl, Nat.le_of_ble_eq_true rfl⟩ ⟨Nat.le_of_ble_eq_true rfl, Nat.le_of_ble_eq_true rfl⟩ dL_like_7) (fun r9 H locs er X => ?_) (fun x9 H locs q9 ce er X hz hv hcl => nomatch er)
    rw [← Sum.inl.inj er, ← Option.some.inj h]
    refine lv_i2l C.1 C.2.1 dL_like_10 rfl ?_
    refine ast_o C G X (k := 411) (x := v) kd411 in411 dL_like_11 (fun H locs X => ?_)
    refine lv_goto (tgt := 23) C.1 C.2.1 dL_like_12 (by decide) ?_
    refine lv_iconst (v := 0) C.1 C.2.1 dL_like_23 (by decide) ?_
    exact rtW C X rfl rfl dL_like_24
  · refine axI X (runXV C G X q_X11_like k_1378 k_1379 k_1377 (rcX11 G X kd_0) (c_X11_like l E hT e9) rfl hl.1 rfl (Nat.le_of_ble_eq_true rfl) ⟨Nat.le_of_ble_eq_true rfl, Nat.le_of_ble_eq_true rfl⟩ ⟨Nat.le_of_ble_eq_true rfl, Nat.le_of_ble_eq_true rfl⟩ dL_like_7) (fun r9 H locs er X => nomatch er) (fun x8 H locs q9 ce er X hz hv hcl => ?_)
    rw [← Sum.inr.inj er] at hcl
    rcases hx2_s h with ⟨rfl, hr⟩ | ⟨rfl, hr⟩
    · rw [← hr]
      refine vx_catch C.hown [] ⟨0, 12, 15, 24⟩ [⟨0, 12, 19, 13⟩] (by rw [T0]; rfl) (fun z hz => nomatch hz) (by decide) (by decide) (C.ts _ k_1156) (cst_ G (a := exN 1) (b := "java/lang/IndexOutOfBoundsException") (by decide +kernel)) hz hv hcl ?_
      refine lv_astore (lv' := [(5, .ref q9), (0, .ref (gB E + 0)), (1, .int x1), (2, .int x2), (3, .int x3), (4, .ref (gB E + 411))]) C.1 C.2.1 dL_like_15 hl (by decide) rfl (fun ls hl => ?_)
      refine lv_iconst (v := 1) C.1 C.2.1 dL_like_17 (by decide) ?_
      exact rtW C X rfl rfl dL_like_18
    · rw [← hr]
      refine vx_catch C.hown [⟨0, 12, 15, 24⟩] ⟨0, 12, 19, 13⟩ [] (by rw [T0]; rfl) (fun z hz => by
          simp only [List.mem_cons, List.not_mem_nil, or_false] at hz
          subst hz
          exact ncs_ C G (by decide) k_1156 (by decide +kernel)) (by decide) (by decide) (C.ts _ k_797) (cst_ G (a := exN 2) (b := "java/lang/IllegalArgumentException") (by decide +kernel)) hz hv hcl ?_
      refine lv_astore (lv' := [(5, .ref q9), (0, .ref (gB E + 0)), (1, .int x1), (2, .int x2), (3, .int x3), (4, .ref (gB E + 411))]) C.1 C.2.1 dL_like_19 hl (by decide) rfl (fun ls hl => ?_)
      refine lv_iconst (v := 2) C.1 C.2.1 dL_like_21 (by decide) ?_
      exact rtW C X rfl rfl dL_like_22
theorem c_L_way (l : Launch) (E : GE) (hT : l.stackTraces = false) {σ : Mem} {x1 x2 x3 : Int32} {r : Int32 × Mem} (h : L_way x1 x2 x3 σ = some r) : CtW l E yL_way cL_way 6 [(0, 19, 22, 24), (0, 19, 26, 13)] 15 3 [.ref (gB E + 0), .int x1, .int x2, .int x3, .ref (gB E + 411)] σ r.1 r.2 := by
  refine ofWC (cc := cL_way) (maxL := 6) (ret := (some .int)) (by decide) rfl ?_
  intro p e s m args below meth c s₁ B hml hv
  obtain ⟨rfl, G, X⟩ := start hv
  obtain ⟨C, T0⟩ := cxofW B hml
  have hl := lv_entry [.ref (gB E + 0), .int x1, .int x2, .int x3, .ref (gB E + 411)] (n := 6) (Nat.le_of_ble_eq_true rfl)
  rw [lg_entry_eq]
  generalize (lg_sl [.ref (gB E + 0), .int x1, .int x2, .int x3, .ref (gB E + 411)] ++ List.replicate (6 - (lg_sl [.ref (gB E + 0), .int x1, .int x2, .int x3, .ref (gB E + 411)]).length) Slot.unset).toArray = ls at hl ⊢
  unfold L_way at h
  refine lv_aload C.1 C.2.1 dL_way_0 (lv_at hl 4 rfl) ?_
  refine lv_iconst (v := 0) C.1 C.2.1 dL_way_2 (by decide) ?_
  refine lv_aload_n C.1 C.2.1 dL_way_3 rfl (lv_at hl 0 rfl) ?_
  refine lv_iload_n C.1 C.2.1 dL_way_4 rfl (lv_at hl 1 rfl) ?_
  refine lv_iload_n C.1 C.2.1 dL_way_5 rfl (lv_at hl 2 rfl) ?_
  refine lv_iload_n C.1 C.2.1 dL_way_6 rfl (lv_at hl 3 rfl) ?_
  rcases bndx2 h with ⟨v, σ1, e9, h⟩ | ⟨x9, σ1, e9, h⟩
  · refine axI X (runXV C G X q_X11_way k_1386 k_1387 k_1385 (rcX11 G X kd_0) (c_X11_way l E hT e9) rfl hl.1 rfl (Nat.le_of_ble_eq_true rfl) ⟨Nat.le_of_ble_eq_true rfl, Nat.le_of_ble_eq_true rfl⟩ ⟨Nat.le_of_ble_eq_true rfl, Nat.le_of_ble_eq_true rfl⟩ dL_way_7) (fun r9 H locs er X => ?_) (fun x9 H locs q9 ce er X hz hv hcl => nomatch er)
    rw [← Sum.inl.inj er, ← Option.some.inj h]
    refine lv_if_eq (tgt := 17) C.1 C.2.1 dL_way_10 (by decide) (fun cv => ?_) (fun cv => ?_)
    · rw [if_pos cv]
      refine lv_lconst (v := (0 : Int32).toInt64) C.1 C.2.1 dL_way_17 (by decide) ?_
      refine ast_o C G X (k := 411) (x := 0) kd411 in411 dL_way_18 (fun H locs X => ?_)
      refine lv_goto (tgt := 30) C.1 C.2.1 dL_way_19 (by decide) ?_
      refine lv_iconst (v := 0) C.1 C.2.1 dL_way_30 (by decide) ?_
      exact rtW C X rfl rfl dL_way_31
    · rw [if_neg cv]
      refine lv_lconst (v := (1 : Int32).toInt64) C.1 C.2.1 dL_way_13 (by decide) ?_
      refine lv_goto (tgt := 18) C.1 C.2.1 dL_way_14 (by decide) ?_
      refine ast_o C G X (k := 411) (x := 1) kd411 in411 dL_way_18 (fun H locs X => ?_)
      refine lv_goto (tgt := 30) C.1 C.2.1 dL_way_19 (by decide) ?_
      refine lv_iconst (v := 0) C.1 C.2.1 dL_way_30 (by decide) ?_
      exact rtW C X rfl rfl dL_way_31
  · refine axI X (runXV C G X q_X11_way k_1386 k_1387 k_1385 (rcX11 G X kd_0) (c_X11_way l E hT e9) rfl hl.1 rfl (Nat.le_of_ble_eq_true rfl) ⟨Nat.le_of_ble_eq_true rfl, Nat.le_of_ble_eq_true rfl⟩ ⟨Nat.le_of_ble_eq_true rfl, Nat.le_of_ble_eq_true rfl⟩ dL_way_7) (fun r9 H locs er X => nomatch er) (fun x8 H locs q9 ce er X hz hv hcl => ?_)
    rw [← Sum.inr.inj er] at hcl
    rcases hx2_s h with ⟨rfl, hr⟩ | ⟨rfl, hr⟩
    · rw [← hr]
      refine vx_catch C.hown [] ⟨0, 19, 22, 24⟩ [⟨0, 19, 26, 13⟩] (by rw [T0]; rfl) (fun z hz => nomatch hz) (by decide) (by decide) (C.ts _ k_1156) (cst_ G (a := exN 1) (b := "java/lang/IndexOutOfBoundsException") (by decide +kernel)) hz hv hcl ?_
      refine lv_astore (lv' := [(5, .ref q9), (0, .ref (gB E + 0)), (1, .int x1), (2, .int x2), (3, .int x3), (4, .ref (gB E + 411))]) C.1 C.2.1 dL_way_22 hl (by decide) rfl (fun ls hl => ?_)
      refine lv_iconst (v := 1) C.1 C.2.1 dL_way_24 (by decide) ?_
      exact rtW C X rfl rfl dL_way_25
    · rw [← hr]
      refine vx_catch C.hown [⟨0, 19, 22, 24⟩] ⟨0, 19, 26, 13⟩ [] (by rw [T0]; rfl) (fun z hz => by
          simp only [List.mem_cons, List.not_mem_nil, or_false] at hz
          subst hz
          exact ncs_ C G (by decide) k_1156 (by decide +kernel)) (by decide) (by decide) (C.ts _ k_797) (cst_ G (a := exN 2) (b := "java/lang/IllegalArgumentException") (by decide +kernel)) hz hv hcl ?_
      refine lv_astore (lv' := [(5, .ref q9), (0, .ref (gB E + 0)), (1, .int x1), (2, .int x2), (3, .int x3), (4, .ref (gB E + 411))]) C.1 C.2.1 dL_way_26 hl (by decide) rfl (fun ls hl => ?_)
      refine lv_iconst (v := 2) C.1 C.2.1 dL_way_28 (by decide) ?_
      exact rtW C X rfl rfl dL_way_29
theorem c_L_far (l : Launch) (E : GE) (hT : l.stackTraces = false) {σ : Mem} {x1 x2 : Int32} {r : Int32 × Mem} (h : L_far x1 x2 σ = some r) : CtW l E yL_far cL_far 5 [(0, 10, 13, 24)] 14 2 [.ref (gB E + 0), .int x1, .int x2, .ref (gB E + 411)] σ r.1 r.2 := by
  refine ofWC (cc := cL_far) (maxL := 5) (ret := (some .int)) (by decide) rfl ?_
  intro p e s m args below meth c s₁ B hml hv
  obtain ⟨rfl, G, X⟩ := start hv
  obtain ⟨C, T0⟩ := cxofW B hml
  have hl := lv_entry [.ref (gB E + 0), .int x1, .int x2, .ref (gB E + 411)] (n := 5) (Nat.le_of_ble_eq_true rfl)
  rw [lg_entry_eq]
  generalize (lg_sl [.ref (gB E + 0), .int x1, .int x2, .ref (gB E + 411)] ++ List.replicate (5 - (lg_sl [.ref (gB E + 0), .int x1, .int x2, .ref (gB E + 411)]).length) Slot.unset).toArray = ls at hl ⊢
  unfold L_far at h
  refine lv_aload_n C.1 C.2.1 dL_far_0 rfl (lv_at hl 3 rfl) ?_
  refine lv_iconst (v := 0) C.1 C.2.1 dL_far_1 (by decide) ?_
  refine lv_aload_n C.1 C.2.1 dL_far_2 rfl (lv_at hl 0 rfl) ?_
  refine lv_iload_n C.1 C.2.1 dL_far_3 rfl (lv_at hl 1 rfl) ?_
  refine lv_iload_n C.1 C.2.1 dL_far_4 rfl (lv_at hl 2 rfl) ?_
  rcases bndx h with ⟨v, e9, h⟩ | ⟨x9, e9, h⟩
  · refine axI X (runXV C G X q_X11_far k_1394 k_1395 k_1393 (rcX11 G X kd_0) (c_X11_far l E hT e9) rfl hl.1 rfl (Nat.le_of_ble_eq_true rfl) ⟨Nat.le_of_ble_eq_true rfl, Nat.le_of_ble_eq_true rfl⟩ ⟨Nat.le_of_ble_eq_true rfl, Nat.le_of_ble_eq_true rfl⟩ dL_far_5) (fun r9 H locs er X => ?_) (fun x9 H locs q9 ce er X hz hv hcl => nomatch er)
    rw [← Sum.inl.inj er, ← Option.some.inj h]
    refine lv_i2l C.1 C.2.1 dL_far_8 rfl ?_
    refine ast_o C G X (k := 411) (x := v) kd411 in411 dL_far_9 (fun H locs X => ?_)
    refine lv_goto (tgt := 17) C.1 C.2.1 dL_far_10 (by decide) ?_
    refine lv_iconst (v := 0) C.1 C.2.1 dL_far_17 (by decide) ?_
    exact rtW C X rfl rfl dL_far_18
  · refine axI X (runXV C G X q_X11_far k_1394 k_1395 k_1393 (rcX11 G X kd_0) (c_X11_far l E hT e9) rfl hl.1 rfl (Nat.le_of_ble_eq_true rfl) ⟨Nat.le_of_ble_eq_true rfl, Nat.le_of_ble_eq_true rfl⟩ ⟨Nat.le_of_ble_eq_true rfl, Nat.le_of_ble_eq_true rfl⟩ dL_far_5) (fun r9 H locs er X => nomatch er) (fun x8 H locs q9 ce er X hz hv hcl => ?_)
    rw [← Sum.inr.inj er] at hcl
    obtain ⟨rfl, hr⟩ := hx1_s h
    rw [← hr]
    refine vx_catch C.hown [] ⟨0, 10, 13, 24⟩ [] (by rw [T0]; rfl) (fun z hz => nomatch hz) (by decide) (by decide) (C.ts _ k_1156) (cst_ G (a := exN 1) (b := "java/lang/IndexOutOfBoundsException") (by decide +kernel)) hz hv hcl ?_
    refine lv_astore (lv' := [(4, .ref q9), (0, .ref (gB E + 0)), (1, .int x1), (2, .int x2), (3, .ref (gB E + 411))]) C.1 C.2.1 dL_far_13 hl (by decide) rfl (fun ls hl => ?_)
    refine lv_iconst (v := 1) C.1 C.2.1 dL_far_15 (by decide) ?_
    exact rtW C X rfl rfl dL_far_16
theorem c_L_round (l : Launch) (E : GE) (hT : l.stackTraces = false) {σ : Mem} {x1 x2 : Int32} {r : Int32 × Mem} (h : L_round x1 x2 σ = some r) : CtW l E yL_round cL_round 5 [(0, 10, 13, 24), (0, 10, 17, 13)] 14 2 [.ref (gB E + 0), .int x1, .int x2, .ref (gB E + 411)] σ r.1 r.2 := by
  refine ofWC (cc := cL_round) (maxL := 5) (ret := (some .int)) (by decide) rfl ?_
  intro p e s m args below meth c s₁ B hml hv
  obtain ⟨rfl, G, X⟩ := start hv
  obtain ⟨C, T0⟩ := cxofW B hml
  have hl := lv_entry [.ref (gB E + 0), .int x1, .int x2, .ref (gB E + 411)] (n := 5) (Nat.le_of_ble_eq_true rfl)
  rw [lg_entry_eq]
  generalize (lg_sl [.ref (gB E + 0), .int x1, .int x2, .ref (gB E + 411)] ++ List.replicate (5 - (lg_sl [.ref (gB E + 0), .int x1, .int x2, .ref (gB E + 411)]).length) Slot.unset).toArray = ls at hl ⊢
  unfold L_round at h
  refine lv_aload_n C.1 C.2.1 dL_round_0 rfl (lv_at hl 3 rfl) ?_
  refine lv_iconst (v := 0) C.1 C.2.1 dL_round_1 (by decide) ?_
  refine lv_aload_n C.1 C.2.1 dL_round_2 rfl (lv_at hl 0 rfl) ?_
  refine lv_iload_n C.1 C.2.1 dL_round_3 rfl (lv_at hl 1 rfl) ?_
  refine lv_iload_n C.1 C.2.1 dL_round_4 rfl (lv_at hl 2 rfl) ?_
  rcases bndx2 h with ⟨v, σ1, e9, h⟩ | ⟨x9, σ1, e9, h⟩
  · refine axI X (runXV C G X q_X11_round k_1402 k_1403 k_1401 (rcX11 G X kd_0) (c_X11_round l E hT e9) rfl hl.1 rfl (Nat.le_of_ble_eq_true rfl) ⟨Nat.le_of_ble_eq_true rfl, Nat.le_of_ble_eq_true rfl⟩ ⟨Nat.le_of_ble_eq_true rfl, Nat.le_of_ble_eq_true rfl⟩ dL_round_5) (fun r9 H locs er X => ?_) (fun x9 H locs q9 ce er X hz hv hcl => nomatch er)
    rw [← Sum.inl.inj er, ← Option.some.inj h]
    refine lv_i2l C.1 C.2.1 dL_round_8 rfl ?_
    refine ast_o C G X (k := 411) (x := v) kd411 in411 dL_round_9 (fun H locs X => ?_)
    refine lv_goto (tgt := 21) C.1 C.2.1 dL_round_10 (by decide) ?_
    refine lv_iconst (v := 0) C.1 C.2.1 dL_round_21 (by decide) ?_
    exact rtW C X rfl rfl dL_round_22
  · refine axI X (runXV C G X q_X11_round k_1402 k_1403 k_1401 (rcX11 G X kd_0) (c_X11_round l E hT e9) rfl hl.1 rfl (Nat.le_of_ble_eq_true rfl) ⟨Nat.le_of_ble_eq_true rfl, Nat.le_of_ble_eq_true rfl⟩ ⟨Nat.le_of_ble_eq_true rfl, Nat.le_of_ble_eq_true rfl⟩ dL_round_5) (fun r9 H locs er X => nomatch er) (fun x8 H locs q9 ce er X hz hv hcl => ?_)
    rw [← Sum.inr.inj er] at hcl
    rcases hx2_s h with ⟨rfl, hr⟩ | ⟨rfl, hr⟩
    · rw [← hr]
      refine vx_catch C.hown [] ⟨0, 10, 13, 24⟩ [⟨0, 10, 17, 13⟩] (by rw [T0]; rfl) (fun z hz => nomatch hz) (by decide) (by decide) (C.ts _ k_1156) (cst_ G (a := exN 1) (b := "java/lang/IndexOutOfBoundsException") (by decide +kernel)) hz hv hcl ?_
      refine lv_astore (lv' := [(4, .ref q9), (0, .ref (gB E + 0)), (1, .int x1), (2, .int x2), (3, .ref (gB E + 411))]) C.1 C.2.1 dL_round_13 hl (by decide) rfl (fun ls hl => ?_)
      refine lv_iconst (v := 1) C.1 C.2.1 dL_round_15 (by decide) ?_
      exact rtW C X rfl rfl dL_round_16
    · rw [← hr]
      refine vx_catch C.hown [⟨0, 10, 13, 24⟩] ⟨0, 10, 17, 13⟩ [] (by rw [T0]; rfl) (fun z hz => by
          simp only [List.mem_cons, List.not_mem_nil, or_false] at hz
          subst hz
          exact ncs_ C G (by decide) k_1156 (by decide +kernel)) (by decide) (by decide) (C.ts _ k_797) (cst_ G (a := exN 2) (b := "java/lang/IllegalArgumentException") (by decide +kernel)) hz hv hcl ?_
      refine lv_astore (lv' := [(4, .ref q9), (0, .ref (gB E + 0)), (1, .int x1), (2, .int x2), (3, .ref (gB E + 411))]) C.1 C.2.1 dL_round_17 hl (by decide) rfl (fun ls hl => ?_)
      refine lv_iconst (v := 2) C.1 C.2.1 dL_round_19 (by decide) ?_
      exact rtW C X rfl rfl dL_round_20
theorem c_L_closed (l : Launch) (E : GE) (hT : l.stackTraces = false) {σ : Mem} {x1 x2 : Int32} {r : Int32 × Mem} (h : L_closed x1 x2 σ = some r) : CtW l E yL_closed cL_closed 5 [(0, 10, 13, 24)] 14 2 [.ref (gB E + 0), .int x1, .int x2, .ref (gB E + 411)] σ r.1 r.2 := by
  refine ofWC (cc := cL_closed) (maxL := 5) (ret := (some .int)) (by decide) rfl ?_
  intro p e s m args below meth c s₁ B hml hv
  obtain ⟨rfl, G, X⟩ := start hv
  obtain ⟨C, T0⟩ := cxofW B hml
  have hl := lv_entry [.ref (gB E + 0), .int x1, .int x2, .ref (gB E + 411)] (n := 5) (Nat.le_of_ble_eq_true rfl)
  rw [lg_entry_eq]
  generalize (lg_sl [.ref (gB E + 0), .int x1, .int x2, .ref (gB E + 411)] ++ List.replicate (5 - (lg_sl [.ref (gB E + 0), .int x1, .int x2, .ref (gB E + 411)]).length) Slot.unset).toArray = ls at hl ⊢
  unfold L_closed at h
  refine lv_aload_n C.1 C.2.1 dL_closed_0 rfl (lv_at hl 3 rfl) ?_
  refine lv_iconst (v := 0) C.1 C.2.1 dL_closed_1 (by decide) ?_
  refine lv_aload_n C.1 C.2.1 dL_closed_2 rfl (lv_at hl 0 rfl) ?_
  refine lv_iload_n C.1 C.2.1 dL_closed_3 rfl (lv_at hl 1 rfl) ?_
  refine lv_iload_n C.1 C.2.1 dL_closed_4 rfl (lv_at hl 2 rfl) ?_
  rcases bndx h with ⟨v, e9, h⟩ | ⟨x9, e9, h⟩
  · refine axI X (runXV C G X q_X11_closed k_1443 k_1444 k_1442 (rcX11 G X kd_0) (c_X11_closed l E hT e9) rfl hl.1 rfl (Nat.le_of_ble_eq_true rfl) ⟨Nat.le_of_ble_eq_true rfl, Nat.le_of_ble_eq_true rfl⟩ ⟨Nat.le_of_ble_eq_true rfl, Nat.le_of_ble_eq_true rfl⟩ dL_closed_5) (fun r9 H locs er X => ?_) (fun x9 H locs q9 ce er X hz hv hcl => nomatch er)
    rw [← Sum.inl.inj er, ← Option.some.inj h]
    refine lv_i2l C.1 C.2.1 dL_closed_8 rfl ?_
    refine ast_o C G X (k := 411) (x := v) kd411 in411 dL_closed_9 (fun H locs X => ?_)
    refine lv_goto (tgt := 17) C.1 C.2.1 dL_closed_10 (by decide) ?_
    refine lv_iconst (v := 0) C.1 C.2.1 dL_closed_17 (by decide) ?_
    exact rtW C X rfl rfl dL_closed_18
  · refine axI X (runXV C G X q_X11_closed k_1443 k_1444 k_1442 (rcX11 G X kd_0) (c_X11_closed l E hT e9) rfl hl.1 rfl (Nat.le_of_ble_eq_true rfl) ⟨Nat.le_of_ble_eq_true rfl, Nat.le_of_ble_eq_true rfl⟩ ⟨Nat.le_of_ble_eq_true rfl, Nat.le_of_ble_eq_true rfl⟩ dL_closed_5) (fun r9 H locs er X => nomatch er) (fun x8 H locs q9 ce er X hz hv hcl => ?_)
    rw [← Sum.inr.inj er] at hcl
    obtain ⟨rfl, hr⟩ := hx1_s h
    rw [← hr]
    refine vx_catch C.hown [] ⟨0, 10, 13, 24⟩ [] (by rw [T0]; rfl) (fun z hz => nomatch hz) (by decide) (by decide) (C.ts _ k_1156) (cst_ G (a := exN 1) (b := "java/lang/IndexOutOfBoundsException") (by decide +kernel)) hz hv hcl ?_
    refine lv_astore (lv' := [(4, .ref q9), (0, .ref (gB E + 0)), (1, .int x1), (2, .int x2), (3, .ref (gB E + 411))]) C.1 C.2.1 dL_closed_13 hl (by decide) rfl (fun ls hl => ?_)
    refine lv_iconst (v := 1) C.1 C.2.1 dL_closed_15 (by decide) ?_
    exact rtW C X rfl rfl dL_closed_16
theorem c_L_whoLit (l : Launch) (E : GE) (hT : l.stackTraces = false) {σ : Mem} {r : Int32 × Mem} (h : L_whoLit σ = some r) : CtW l E yL_whoLit cL_whoLit 3 [(0, 8, 11, 13)] 14 1 [.ref (gB E + 0), .ref (gB E + 411)] σ r.1 r.2 := by
  refine ofWC (cc := cL_whoLit) (maxL := 3) (ret := (some .int)) (by decide) rfl ?_
  intro p e s m args below meth c s₁ B hml hv
  obtain ⟨rfl, G, X⟩ := start hv
  obtain ⟨C, T0⟩ := cxofW B hml
  have hl := lv_entry [.ref (gB E + 0), .ref (gB E + 411)] (n := 3) (Nat.le_of_ble_eq_true rfl)
  rw [lg_entry_eq]
  generalize (lg_sl [.ref (gB E + 0), .ref (gB E + 411)] ++ List.replicate (3 - (lg_sl [.ref (gB E + 0), .ref (gB E + 411)]).length) Slot.unset).toArray = ls at hl ⊢
  unfold L_whoLit at h
  refine lv_aload_n C.1 C.2.1 dL_whoLit_0 rfl (lv_at hl 1 rfl) ?_
  refine lv_iconst (v := 0) C.1 C.2.1 dL_whoLit_1 (by decide) ?_
  refine lv_aload_n C.1 C.2.1 dL_whoLit_2 rfl (lv_at hl 0 rfl) ?_
  rcases bndx2 h with ⟨v, σ1, e9, h⟩ | ⟨x9, σ1, e9, h⟩
  · refine axI X (runXV C G X q_X11_whoLit k_1458 k_1459 k_1457 (rcX11 G X kd_0) (c_X11_whoLit l E hT e9) rfl hl.1 rfl (Nat.le_of_ble_eq_true rfl) ⟨Nat.le_of_ble_eq_true rfl, Nat.le_of_ble_eq_true rfl⟩ ⟨Nat.le_of_ble_eq_true rfl, Nat.le_of_ble_eq_true rfl⟩ dL_whoLit_3) (fun r9 H locs er X => ?_) (fun x9 H locs q9 ce er X hz hv hcl => nomatch er)
    rw [← Sum.inl.inj er, ← Option.some.inj h]
    refine lv_i2l C.1 C.2.1 dL_whoLit_6 rfl ?_
    refine ast_o C G X (k := 411) (x := v) kd411 in411 dL_whoLit_7 (fun H locs X => ?_)
    refine lv_goto (tgt := 14) C.1 C.2.1 dL_whoLit_8 (by decide) ?_
    refine lv_iconst (v := 0) C.1 C.2.1 dL_whoLit_14 (by decide) ?_
    exact rtW C X rfl rfl dL_whoLit_15
  · refine axI X (runXV C G X q_X11_whoLit k_1458 k_1459 k_1457 (rcX11 G X kd_0) (c_X11_whoLit l E hT e9) rfl hl.1 rfl (Nat.le_of_ble_eq_true rfl) ⟨Nat.le_of_ble_eq_true rfl, Nat.le_of_ble_eq_true rfl⟩ ⟨Nat.le_of_ble_eq_true rfl, Nat.le_of_ble_eq_true rfl⟩ dL_whoLit_3) (fun r9 H locs er X => nomatch er) (fun x8 H locs q9 ce er X hz hv hcl => ?_)
    rw [← Sum.inr.inj er] at hcl
    obtain ⟨rfl, hr⟩ := hx1_s h
    rw [← hr]
    refine vx_catch C.hown [] ⟨0, 8, 11, 13⟩ [] (by rw [T0]; rfl) (fun z hz => nomatch hz) (by decide) (by decide) (C.ts _ k_797) (cst_ G (a := exN 2) (b := "java/lang/IllegalArgumentException") (by decide +kernel)) hz hv hcl ?_
    refine lv_astore_n (lv' := [(2, .ref q9), (0, .ref (gB E + 0)), (1, .ref (gB E + 411))]) C.1 C.2.1 dL_whoLit_11 rfl hl (by decide) rfl (fun ls hl => ?_)
    refine lv_iconst (v := 1) C.1 C.2.1 dL_whoLit_12 (by decide) ?_
    exact rtW C X rfl rfl dL_whoLit_13
theorem c_L_ask (l : Launch) (E : GE) (hT : l.stackTraces = false) {σ : Mem} {r : Int32 × Mem} (h : L_ask σ = some r) : CtW l E yL_ask cL_ask 3 [(0, 8, 11, 13)] 14 1 [.ref (gB E + 0), .ref (gB E + 411)] σ r.1 r.2 := by
  refine ofWC (cc := cL_ask) (maxL := 3) (ret := (some .int)) (by decide) rfl ?_
  intro p e s m args below meth c s₁ B hml hv
  obtain ⟨rfl, G, X⟩ := start hv
  obtain ⟨C, T0⟩ := cxofW B hml
  have hl := lv_entry [.ref (gB E + 0), .ref (gB E + 411)] (n := 3) (Nat.le_of_ble_eq_true rfl)
  rw [lg_entry_eq]
  generalize (lg_sl [.ref (gB E + 0), .ref (gB E + 411)] ++ List.replicate (3 - (lg_sl [.ref (gB E + 0), .ref (gB E + 411)]).length) Slot.unset).toArray = ls at hl ⊢
  unfold L_ask at h
  refine lv_aload_n C.1 C.2.1 dL_ask_0 rfl (lv_at hl 1 rfl) ?_
  refine lv_iconst (v := 0) C.1 C.2.1 dL_ask_1 (by decide) ?_
  refine lv_aload_n C.1 C.2.1 dL_ask_2 rfl (lv_at hl 0 rfl) ?_
  rcases bndx2 h with ⟨v, σ1, e9, h⟩ | ⟨x9, σ1, e9, h⟩
  · refine axI X (runXV C G X q_X11_ask k_1485 k_1486 k_1484 (rcX11 G X kd_0) (c_X11_ask l E hT e9) rfl hl.1 rfl (Nat.le_of_ble_eq_true rfl) ⟨Nat.le_of_ble_eq_true rfl, Nat.le_of_ble_eq_true rfl⟩ ⟨Nat.le_of_ble_eq_true rfl, Nat.le_of_ble_eq_true rfl⟩ dL_ask_3) (fun r9 H locs er X => ?_) (fun x9 H locs q9 ce er X hz hv hcl => nomatch er)
    rw [← Sum.inl.inj er, ← Option.some.inj h]
    refine lv_i2l C.1 C.2.1 dL_ask_6 rfl ?_
    refine ast_o C G X (k := 411) (x := v) kd411 in411 dL_ask_7 (fun H locs X => ?_)
    refine lv_goto (tgt := 14) C.1 C.2.1 dL_ask_8 (by decide) ?_
    refine lv_iconst (v := 0) C.1 C.2.1 dL_ask_14 (by decide) ?_
    exact rtW C X rfl rfl dL_ask_15
  · refine axI X (runXV C G X q_X11_ask k_1485 k_1486 k_1484 (rcX11 G X kd_0) (c_X11_ask l E hT e9) rfl hl.1 rfl (Nat.le_of_ble_eq_true rfl) ⟨Nat.le_of_ble_eq_true rfl, Nat.le_of_ble_eq_true rfl⟩ ⟨Nat.le_of_ble_eq_true rfl, Nat.le_of_ble_eq_true rfl⟩ dL_ask_3) (fun r9 H locs er X => nomatch er) (fun x8 H locs q9 ce er X hz hv hcl => ?_)
    rw [← Sum.inr.inj er] at hcl
    obtain ⟨rfl, hr⟩ := hx1_s h
    rw [← hr]
    refine vx_catch C.hown [] ⟨0, 8, 11, 13⟩ [] (by rw [T0]; rfl) (fun z hz => nomatch hz) (by decide) (by decide) (C.ts _ k_797) (cst_ G (a := exN 2) (b := "java/lang/IllegalArgumentException") (by decide +kernel)) hz hv hcl ?_
    refine lv_astore_n (lv' := [(2, .ref q9), (0, .ref (gB E + 0)), (1, .ref (gB E + 411))]) C.1 C.2.1 dL_ask_11 rfl hl (by decide) rfl (fun ls hl => ?_)
    refine lv_iconst (v := 1) C.1 C.2.1 dL_ask_12 (by decide) ?_
    exact rtW C X rfl rfl dL_ask_13
theorem c_L_ring (l : Launch) (E : GE) (hT : l.stackTraces = false) {σ : Mem} {x1 : Int32} {r : Int32 × Mem} (h : L_ring x1 σ = some r) : CtW l E yL_ring cL_ring 4 [(0, 16, 19, 24)] 14 1 [.ref (gB E + 0), .int x1, .ref (gB E + 411)] σ r.1 r.2 := by
  refine ofWC (cc := cL_ring) (maxL := 4) (ret := (some .int)) (by decide) rfl ?_
  intro p e s m args below meth c s₁ B hml hv
  obtain ⟨rfl, G, X⟩ := start hv
  obtain ⟨C, T0⟩ := cxofW B hml
  have hl := lv_entry [.ref (gB E + 0), .int x1, .ref (gB E + 411)] (n := 4) (Nat.le_of_ble_eq_true rfl)
  rw [lg_entry_eq]
  generalize (lg_sl [.ref (gB E + 0), .int x1, .ref (gB E + 411)] ++ List.replicate (4 - (lg_sl [.ref (gB E + 0), .int x1, .ref (gB E + 411)]).length) Slot.unset).toArray = ls at hl ⊢
  unfold L_ring at h
  refine lv_aload_n C.1 C.2.1 dL_ring_0 rfl (lv_at hl 2 rfl) ?_
  refine lv_iconst (v := 0) C.1 C.2.1 dL_ring_1 (by decide) ?_
  refine lv_aload_n C.1 C.2.1 dL_ring_2 rfl (lv_at hl 0 rfl) ?_
  refine lv_iload_n C.1 C.2.1 dL_ring_3 rfl (lv_at hl 1 rfl) ?_
  rcases bndx2 h with ⟨v, σ1, e9, h⟩ | ⟨x9, σ1, e9, h⟩
  · refine axI X (runXV C G X q_X11_ring k_1502 k_1503 k_1501 (rcX11 G X kd_0) (c_X11_ring l E hT e9) rfl hl.1 rfl (Nat.le_of_ble_eq_true rfl) ⟨Nat.le_of_ble_eq_true rfl, Nat.le_of_ble_eq_true rfl⟩ ⟨Nat.le_of_ble_eq_true rfl, Nat.le_of_ble_eq_true rfl⟩ dL_ring_4) (fun r9 H locs er X => ?_) (fun x9 H locs q9 ce er X hz hv hcl => nomatch er)
    rw [← Sum.inl.inj er, ← Option.some.inj h]
    refine lv_if_eq (tgt := 14) C.1 C.2.1 dL_ring_7 (by decide) (fun cv => ?_) (fun cv => ?_)
    · rw [if_pos cv]
      refine lv_lconst (v := (0 : Int32).toInt64) C.1 C.2.1 dL_ring_14 (by decide) ?_
      refine ast_o C G X (k := 411) (x := 0) kd411 in411 dL_ring_15 (fun H locs X => ?_)
      refine lv_goto (tgt := 22) C.1 C.2.1 dL_ring_16 (by decide) ?_
      refine lv_iconst (v := 0) C.1 C.2.1 dL_ring_22 (by decide) ?_
      exact rtW C X rfl rfl dL_ring_23
    · rw [if_neg cv]
      refine lv_lconst (v := (1 : Int32).toInt64) C.1 C.2.1 dL_ring_10 (by decide) ?_
      refine lv_goto (tgt := 15) C.1 C.2.1 dL_ring_11 (by decide) ?_
      refine ast_o C G X (k := 411) (x := 1) kd411 in411 dL_ring_15 (fun H locs X => ?_)
      refine lv_goto (tgt := 22) C.1 C.2.1 dL_ring_16 (by decide) ?_
      refine lv_iconst (v := 0) C.1 C.2.1 dL_ring_22 (by decide) ?_
      exact rtW C X rfl rfl dL_ring_23
  · refine axI X (runXV C G X q_X11_ring k_1502 k_1503 k_1501 (rcX11 G X kd_0) (c_X11_ring l E hT e9) rfl hl.1 rfl (Nat.le_of_ble_eq_true rfl) ⟨Nat.le_of_ble_eq_true rfl, Nat.le_of_ble_eq_true rfl⟩ ⟨Nat.le_of_ble_eq_true rfl, Nat.le_of_ble_eq_true rfl⟩ dL_ring_4) (fun r9 H locs er X => nomatch er) (fun x8 H locs q9 ce er X hz hv hcl => ?_)
    rw [← Sum.inr.inj er] at hcl
    obtain ⟨rfl, hr⟩ := hx1_s h
    rw [← hr]
    refine vx_catch C.hown [] ⟨0, 16, 19, 24⟩ [] (by rw [T0]; rfl) (fun z hz => nomatch hz) (by decide) (by decide) (C.ts _ k_1156) (cst_ G (a := exN 1) (b := "java/lang/IndexOutOfBoundsException") (by decide +kernel)) hz hv hcl ?_
    refine lv_astore_n (lv' := [(3, .ref q9), (0, .ref (gB E + 0)), (1, .int x1), (2, .ref (gB E + 411))]) C.1 C.2.1 dL_ring_19 rfl hl (by decide) rfl (fun ls hl => ?_)
    refine lv_iconst (v := 1) C.1 C.2.1 dL_ring_20 (by decide) ?_
    exact rtW C X rfl rfl dL_ring_21
theorem c_L_pairs (l : Launch) (E : GE) (hT : l.stackTraces = false) {σ : Mem} {x1 : Int32} {r : Int32 × Mem} (h : L_pairs x1 σ = some r) : CtW l E yL_pairs cL_pairs 4 [(0, 9, 12, 24)] 14 1 [.ref (gB E + 0), .int x1, .ref (gB E + 411)] σ r.1 r.2 := by
  refine ofWC (cc := cL_pairs) (maxL := 4) (ret := (some .int)) (by decide) rfl ?_
  intro p e s m args below meth c s₁ B hml hv
  obtain ⟨rfl, G, X⟩ := start hv
  obtain ⟨C, T0⟩ := cxofW B hml
  have hl := lv_entry [.ref (gB E + 0), .int x1, .ref (gB E + 411)] (n := 4) (Nat.le_of_ble_eq_true rfl)
  rw [lg_entry_eq]
  generalize (lg_sl [.ref (gB E + 0), .int x1, .ref (gB E + 411)] ++ List.replicate (4 - (lg_sl [.ref (gB E + 0), .int x1, .ref (gB E + 411)]).length) Slot.unset).toArray = ls at hl ⊢
  unfold L_pairs at h
  refine lv_aload_n C.1 C.2.1 dL_pairs_0 rfl (lv_at hl 2 rfl) ?_
  refine lv_iconst (v := 0) C.1 C.2.1 dL_pairs_1 (by decide) ?_
  refine lv_aload_n C.1 C.2.1 dL_pairs_2 rfl (lv_at hl 0 rfl) ?_
  refine lv_iload_n C.1 C.2.1 dL_pairs_3 rfl (lv_at hl 1 rfl) ?_
  rcases bndx2 h with ⟨v, σ1, e9, h⟩ | ⟨x9, σ1, e9, h⟩
  · refine axI X (runXV C G X q_X11_pairs k_1514 k_1515 k_1513 (rcX11 G X kd_0) (c_X11_pairs l E hT e9) rfl hl.1 rfl (Nat.le_of_ble_eq_true rfl) ⟨Nat.le_of_ble_eq_true rfl, Nat.le_of_ble_eq_true rfl⟩ ⟨Nat.le_of_ble_eq_true rfl, Nat.le_of_ble_eq_true rfl⟩ dL_pairs_4) (fun r9 H locs er X => ?_) (fun x9 H locs q9 ce er X hz hv hcl => nomatch er)
    rw [← Sum.inl.inj er, ← Option.some.inj h]
    refine lv_i2l C.1 C.2.1 dL_pairs_7 rfl ?_
    refine ast_o C G X (k := 411) (x := v) kd411 in411 dL_pairs_8 (fun H locs X => ?_)
    refine lv_goto (tgt := 15) C.1 C.2.1 dL_pairs_9 (by decide) ?_
    refine lv_iconst (v := 0) C.1 C.2.1 dL_pairs_15 (by decide) ?_
    exact rtW C X rfl rfl dL_pairs_16
  · refine axI X (runXV C G X q_X11_pairs k_1514 k_1515 k_1513 (rcX11 G X kd_0) (c_X11_pairs l E hT e9) rfl hl.1 rfl (Nat.le_of_ble_eq_true rfl) ⟨Nat.le_of_ble_eq_true rfl, Nat.le_of_ble_eq_true rfl⟩ ⟨Nat.le_of_ble_eq_true rfl, Nat.le_of_ble_eq_true rfl⟩ dL_pairs_4) (fun r9 H locs er X => nomatch er) (fun x8 H locs q9 ce er X hz hv hcl => ?_)
    rw [← Sum.inr.inj er] at hcl
    obtain ⟨rfl, hr⟩ := hx1_s h
    rw [← hr]
    refine vx_catch C.hown [] ⟨0, 9, 12, 24⟩ [] (by rw [T0]; rfl) (fun z hz => nomatch hz) (by decide) (by decide) (C.ts _ k_1156) (cst_ G (a := exN 1) (b := "java/lang/IndexOutOfBoundsException") (by decide +kernel)) hz hv hcl ?_
    refine lv_astore_n (lv' := [(3, .ref q9), (0, .ref (gB E + 0)), (1, .int x1), (2, .ref (gB E + 411))]) C.1 C.2.1 dL_pairs_12 rfl hl (by decide) rfl (fun ls hl => ?_)
    refine lv_iconst (v := 1) C.1 C.2.1 dL_pairs_13 (by decide) ?_
    exact rtW C X rfl rfl dL_pairs_14
theorem c_L_learnt (l : Launch) (E : GE) (hT : l.stackTraces = false) {σ : Mem} {r : Int32 × Mem} (h : L_learnt σ = some r) : CtW l E yL_learnt cL_learnt 3 [(0, 8, 11, 13)] 13 1 [.ref (gB E + 0), .ref (gB E + 411)] σ r.1 r.2 := by
  refine ofWC (cc := cL_learnt) (maxL := 3) (ret := (some .int)) (by decide) rfl ?_
  intro p e s m args below meth c s₁ B hml hv
  obtain ⟨rfl, G, X⟩ := start hv
  obtain ⟨C, T0⟩ := cxofW B hml
  have hl := lv_entry [.ref (gB E + 0), .ref (gB E + 411)] (n := 3) (Nat.le_of_ble_eq_true rfl)
  rw [lg_entry_eq]
  generalize (lg_sl [.ref (gB E + 0), .ref (gB E + 411)] ++ List.replicate (3 - (lg_sl [.ref (gB E + 0), .ref (gB E + 411)]).length) Slot.unset).toArray = ls at hl ⊢
  unfold L_learnt at h
  refine lv_aload_n C.1 C.2.1 dL_learnt_0 rfl (lv_at hl 1 rfl) ?_
  refine lv_iconst (v := 0) C.1 C.2.1 dL_learnt_1 (by decide) ?_
  refine lv_aload_n C.1 C.2.1 dL_learnt_2 rfl (lv_at hl 0 rfl) ?_
  rcases bndx2 h with ⟨v, σ1, e9, h⟩ | ⟨x9, σ1, e9, h⟩
  · refine axI X (runXV C G X q_X11_learnt k_1544 k_1545 k_1543 (rcX11 G X kd_0) (c_X11_learnt l E hT e9) rfl hl.1 rfl (Nat.le_of_ble_eq_true rfl) ⟨Nat.le_of_ble_eq_true rfl, Nat.le_of_ble_eq_true rfl⟩ ⟨Nat.le_of_ble_eq_true rfl, Nat.le_of_ble_eq_true rfl⟩ dL_learnt_3) (fun r9 H locs er X => ?_) (fun x9 H locs q9 ce er X hz hv hcl => nomatch er)
    rw [← Sum.inl.inj er, ← Option.some.inj h]
    refine lv_i2l C.1 C.2.1 dL_learnt_6 rfl ?_
    refine ast_o C G X (k := 411) (x := v) kd411 in411 dL_learnt_7 (fun H locs X => ?_)
    refine lv_goto (tgt := 14) C.1 C.2.1 dL_learnt_8 (by decide) ?_
    refine lv_iconst (v := 0) C.1 C.2.1 dL_learnt_14 (by decide) ?_
    exact rtW C X rfl rfl dL_learnt_15
  · refine axI X (runXV C G X q_X11_learnt k_1544 k_1545 k_1543 (rcX11 G X kd_0) (c_X11_learnt l E hT e9) rfl hl.1 rfl (Nat.le_of_ble_eq_true rfl) ⟨Nat.le_of_ble_eq_true rfl, Nat.le_of_ble_eq_true rfl⟩ ⟨Nat.le_of_ble_eq_true rfl, Nat.le_of_ble_eq_true rfl⟩ dL_learnt_3) (fun r9 H locs er X => nomatch er) (fun x8 H locs q9 ce er X hz hv hcl => ?_)
    rw [← Sum.inr.inj er] at hcl
    obtain ⟨rfl, hr⟩ := hx1_s h
    rw [← hr]
    refine vx_catch C.hown [] ⟨0, 8, 11, 13⟩ [] (by rw [T0]; rfl) (fun z hz => nomatch hz) (by decide) (by decide) (C.ts _ k_797) (cst_ G (a := exN 2) (b := "java/lang/IllegalArgumentException") (by decide +kernel)) hz hv hcl ?_
    refine lv_astore_n (lv' := [(2, .ref q9), (0, .ref (gB E + 0)), (1, .ref (gB E + 411))]) C.1 C.2.1 dL_learnt_11 rfl hl (by decide) rfl (fun ls hl => ?_)
    refine lv_iconst (v := 1) C.1 C.2.1 dL_learnt_12 (by decide) ?_
    exact rtW C X rfl rfl dL_learnt_13
theorem c_L_share (l : Launch) (E : GE) (hT : l.stackTraces = false) {σ : Mem} {x1 x2 : Int32} {r : Int32 × Mem} (h : L_share x1 x2 σ = some r) : CtW l E yL_share cL_share 5 [(0, 10, 13, 24), (0, 10, 17, 13)] 14 2 [.ref (gB E + 0), .int x1, .int x2, .ref (gB E + 411)] σ r.1 r.2 := by
  refine ofWC (cc := cL_share) (maxL := 5) (ret := (some .int)) (by decide) rfl ?_
  intro p e s m args below meth c s₁ B hml hv
  obtain ⟨rfl, G, X⟩ := start hv
  obtain ⟨C, T0⟩ := cxofW B hml
  have hl := lv_entry [.ref (gB E + 0), .int x1, .int x2, .ref (gB E + 411)] (n := 5) (Nat.le_of_ble_eq_true rfl)
  rw [lg_entry_eq]
  generalize (lg_sl [.ref (gB E + 0), .int x1, .int x2, .ref (gB E + 411)] ++ List.replicate (5 - (lg_sl [.ref (gB E + 0), .int x1, .int x2, .ref (gB E + 411)]).length) Slot.unset).toArray = ls at hl ⊢
  unfold L_share at h
  refine lv_aload_n C.1 C.2.1 dL_share_0 rfl (lv_at hl 3 rfl) ?_
  refine lv_iconst (v := 0) C.1 C.2.1 dL_share_1 (by decide) ?_
  refine lv_aload_n C.1 C.2.1 dL_share_2 rfl (lv_at hl 0 rfl) ?_
  refine lv_iload_n C.1 C.2.1 dL_share_3 rfl (lv_at hl 1 rfl) ?_
  refine lv_iload_n C.1 C.2.1 dL_share_4 rfl (lv_at hl 2 rfl) ?_
  rcases bndx2 h with ⟨v, σ1, e9, h⟩ | ⟨x9, σ1, e9, h⟩
  · refine axI X (runXV C G X q_X11_share k_1561 k_1562 k_1560 (rcX11 G X kd_0) (c_X11_share l E hT e9) rfl hl.1 rfl (Nat.le_of_ble_eq_true rfl) ⟨Nat.le_of_ble_eq_true rfl, Nat.le_of_ble_eq_true rfl⟩ ⟨Nat.le_of_ble_eq_true rfl, Nat.le_of_ble_eq_true rfl⟩ dL_share_5) (fun r9 H locs er X => ?_) (fun x9 H locs q9 ce er X hz hv hcl => nomatch er)
    rw [← Sum.inl.inj er, ← Option.some.inj h]
    refine lv_i2l C.1 C.2.1 dL_share_8 rfl ?_
    refine ast_o C G X (k := 411) (x := v) kd411 in411 dL_share_9 (fun H locs X => ?_)
    refine lv_goto (tgt := 21) C.1 C.2.1 dL_share_10 (by decide) ?_
    refine lv_iconst (v := 0) C.1 C.2.1 dL_share_21 (by decide) ?_
    exact rtW C X rfl rfl dL_share_22
  · refine axI X (runXV C G X q_X11_share k_1561 k_1562 k_1560 (rcX11 G X kd_0) (c_X11_share l E hT e9) rfl hl.1 rfl (Nat.le_of_ble_eq_true rfl) ⟨Nat.le_of_ble_eq_true rfl, Nat.le_of_ble_eq_true rfl⟩ ⟨Nat.le_of_ble_eq_true rfl, Nat.le_of_ble_eq_true rfl⟩ dL_share_5) (fun r9 H locs er X => nomatch er) (fun x8 H locs q9 ce er X hz hv hcl => ?_)
    rw [← Sum.inr.inj er] at hcl
    rcases hx2_s h with ⟨rfl, hr⟩ | ⟨rfl, hr⟩
    · rw [← hr]
      refine vx_catch C.hown [] ⟨0, 10, 13, 24⟩ [⟨0, 10, 17, 13⟩] (by rw [T0]; rfl) (fun z hz => nomatch hz) (by decide) (by decide) (C.ts _ k_1156) (cst_ G (a := exN 1) (b := "java/lang/IndexOutOfBoundsException") (by decide +kernel)) hz hv hcl ?_
      refine lv_astore (lv' := [(4, .ref q9), (0, .ref (gB E + 0)), (1, .int x1), (2, .int x2), (3, .ref (gB E + 411))]) C.1 C.2.1 dL_share_13 hl (by decide) rfl (fun ls hl => ?_)
      refine lv_iconst (v := 1) C.1 C.2.1 dL_share_15 (by decide) ?_
      exact rtW C X rfl rfl dL_share_16
    · rw [← hr]
      refine vx_catch C.hown [⟨0, 10, 13, 24⟩] ⟨0, 10, 17, 13⟩ [] (by rw [T0]; rfl) (fun z hz => by
          simp only [List.mem_cons, List.not_mem_nil, or_false] at hz
          subst hz
          exact ncs_ C G (by decide) k_1156 (by decide +kernel)) (by decide) (by decide) (C.ts _ k_797) (cst_ G (a := exN 2) (b := "java/lang/IllegalArgumentException") (by decide +kernel)) hz hv hcl ?_
      refine lv_astore (lv' := [(4, .ref q9), (0, .ref (gB E + 0)), (1, .int x1), (2, .int x2), (3, .ref (gB E + 411))]) C.1 C.2.1 dL_share_17 hl (by decide) rfl (fun ls hl => ?_)
      refine lv_iconst (v := 2) C.1 C.2.1 dL_share_19 (by decide) ?_
      exact rtW C X rfl rfl dL_share_20
theorem c_L_rests (l : Launch) (E : GE) (hT : l.stackTraces = false) {σ : Mem} {x1 x2 : Int32} {r : Int32 × Mem} (h : L_rests x1 x2 σ = some r) : CtW l E yL_rests cL_rests 5 [(0, 10, 13, 24), (0, 10, 17, 13)] 15 3 [.ref (gB E + 0), .int x1, .int x2, .ref (gB E + 411)] σ r.1 r.2 := by
  refine ofWC (cc := cL_rests) (maxL := 5) (ret := (some .int)) (by decide) rfl ?_
  intro p e s m args below meth c s₁ B hml hv
  obtain ⟨rfl, G, X⟩ := start hv
  obtain ⟨C, T0⟩ := cxofW B hml
  have hl := lv_entry [.ref (gB E + 0), .int x1, .int x2, .ref (gB E + 411)] (n := 5) (Nat.le_of_ble_eq_true rfl)
  rw [lg_entry_eq]
  generalize (lg_sl [.ref (gB E + 0), .int x1, .int x2, .ref (gB E + 411)] ++ List.replicate (5 - (lg_sl [.ref (gB E + 0), .int x1, .int x2, .ref (gB E + 411)]).length) Slot.unset).toArray = ls at hl ⊢
  unfold L_rests at h
  refine lv_aload_n C.1 C.2.1 dL_rests_0 rfl (lv_at hl 3 rfl) ?_
  refine lv_iconst (v := 0) C.1 C.2.1 dL_rests_1 (by decide) ?_
  refine lv_aload_n C.1 C.2.1 dL_rests_2 rfl (lv_at hl 0 rfl) ?_
  refine lv_iload_n C.1 C.2.1 dL_rests_3 rfl (lv_at hl 1 rfl) ?_
  refine lv_iload_n C.1 C.2.1 dL_rests_4 rfl (lv_at hl 2 rfl) ?_
  rcases bndx h with ⟨v, e9, h⟩ | ⟨x9, e9, h⟩
  · refine axI X (runXV C G X q_X11_rests k_1572 k_1573 k_1571 (rcX11 G X kd_0) (c_X11_rests l E hT e9) rfl hl.1 rfl (Nat.le_of_ble_eq_true rfl) ⟨Nat.le_of_ble_eq_true rfl, Nat.le_of_ble_eq_true rfl⟩ ⟨Nat.le_of_ble_eq_true rfl, Nat.le_of_ble_eq_true rfl⟩ dL_rests_5) (fun r9 H locs er X => ?_) (fun x9 H locs q9 ce er X hz hv hcl => nomatch er)
    rw [← Sum.inl.inj er, ← Option.some.inj h]
    refine lv_i2l C.1 C.2.1 dL_rests_8 rfl ?_
    refine ast_o C G X (k := 411) (x := v) kd411 in411 dL_rests_9 (fun H locs X => ?_)
    refine lv_goto (tgt := 21) C.1 C.2.1 dL_rests_10 (by decide) ?_
    refine lv_iconst (v := 0) C.1 C.2.1 dL_rests_21 (by decide) ?_
    exact rtW C X rfl rfl dL_rests_22
  · refine axI X (runXV C G X q_X11_rests k_1572 k_1573 k_1571 (rcX11 G X kd_0) (c_X11_rests l E hT e9) rfl hl.1 rfl (Nat.le_of_ble_eq_true rfl) ⟨Nat.le_of_ble_eq_true rfl, Nat.le_of_ble_eq_true rfl⟩ ⟨Nat.le_of_ble_eq_true rfl, Nat.le_of_ble_eq_true rfl⟩ dL_rests_5) (fun r9 H locs er X => nomatch er) (fun x8 H locs q9 ce er X hz hv hcl => ?_)
    rw [← Sum.inr.inj er] at hcl
    rcases hx2_s h with ⟨rfl, hr⟩ | ⟨rfl, hr⟩
    · rw [← hr]
      refine vx_catch C.hown [] ⟨0, 10, 13, 24⟩ [⟨0, 10, 17, 13⟩] (by rw [T0]; rfl) (fun z hz => nomatch hz) (by decide) (by decide) (C.ts _ k_1156) (cst_ G (a := exN 1) (b := "java/lang/IndexOutOfBoundsException") (by decide +kernel)) hz hv hcl ?_
      refine lv_astore (lv' := [(4, .ref q9), (0, .ref (gB E + 0)), (1, .int x1), (2, .int x2), (3, .ref (gB E + 411))]) C.1 C.2.1 dL_rests_13 hl (by decide) rfl (fun ls hl => ?_)
      refine lv_iconst (v := 1) C.1 C.2.1 dL_rests_15 (by decide) ?_
      exact rtW C X rfl rfl dL_rests_16
    · rw [← hr]
      refine vx_catch C.hown [⟨0, 10, 13, 24⟩] ⟨0, 10, 17, 13⟩ [] (by rw [T0]; rfl) (fun z hz => by
          simp only [List.mem_cons, List.not_mem_nil, or_false] at hz
          subst hz
          exact ncs_ C G (by decide) k_1156 (by decide +kernel)) (by decide) (by decide) (C.ts _ k_797) (cst_ G (a := exN 2) (b := "java/lang/IllegalArgumentException") (by decide +kernel)) hz hv hcl ?_
      refine lv_astore (lv' := [(4, .ref q9), (0, .ref (gB E + 0)), (1, .int x1), (2, .int x2), (3, .ref (gB E + 411))]) C.1 C.2.1 dL_rests_17 hl (by decide) rfl (fun ls hl => ?_)
      refine lv_iconst (v := 2) C.1 C.2.1 dL_rests_19 (by decide) ?_
      exact rtW C X rfl rfl dL_rests_20
theorem c_L_odds (l : Launch) (E : GE) (hT : l.stackTraces = false) {σ : Mem} {x1 x2 : Int32} {r : Int32 × Mem} (h : L_odds x1 x2 σ = some r) : CtW l E yL_odds cL_odds 5 [(0, 10, 13, 13)] 14 2 [.ref (gB E + 0), .int x1, .int x2, .ref (gB E + 411)] σ r.1 r.2 := by
  refine ofWC (cc := cL_odds) (maxL := 5) (ret := (some .int)) (by decide) rfl ?_
  intro p e s m args below meth c s₁ B hml hv
  obtain ⟨rfl, G, X⟩ := start hv
  obtain ⟨C, T0⟩ := cxofW B hml
  have hl := lv_entry [.ref (gB E + 0), .int x1, .int x2, .ref (gB E + 411)] (n := 5) (Nat.le_of_ble_eq_true rfl)
  rw [lg_entry_eq]
  generalize (lg_sl [.ref (gB E + 0), .int x1, .int x2, .ref (gB E + 411)] ++ List.replicate (5 - (lg_sl [.ref (gB E + 0), .int x1, .int x2, .ref (gB E + 411)]).length) Slot.unset).toArray = ls at hl ⊢
  unfold L_odds at h
  refine lv_aload_n C.1 C.2.1 dL_odds_0 rfl (lv_at hl 3 rfl) ?_
  refine lv_iconst (v := 0) C.1 C.2.1 dL_odds_1 (by decide) ?_
  refine lv_aload_n C.1 C.2.1 dL_odds_2 rfl (lv_at hl 0 rfl) ?_
  refine lv_iload_n C.1 C.2.1 dL_odds_3 rfl (lv_at hl 1 rfl) ?_
  refine lv_iload_n C.1 C.2.1 dL_odds_4 rfl (lv_at hl 2 rfl) ?_
  rcases bndx h with ⟨v, e9, h⟩ | ⟨x9, e9, h⟩
  · refine axI X (runXV C G X q_X11_odds k_1587 k_1588 k_1586 (rcX11 G X kd_0) (c_X11_odds l E hT e9) rfl hl.1 rfl (Nat.le_of_ble_eq_true rfl) ⟨Nat.le_of_ble_eq_true rfl, Nat.le_of_ble_eq_true rfl⟩ ⟨Nat.le_of_ble_eq_true rfl, Nat.le_of_ble_eq_true rfl⟩ dL_odds_5) (fun r9 H locs er X => ?_) (fun x9 H locs q9 ce er X hz hv hcl => nomatch er)
    rw [← Sum.inl.inj er, ← Option.some.inj h]
    refine lv_i2l C.1 C.2.1 dL_odds_8 rfl ?_
    refine ast_o C G X (k := 411) (x := v) kd411 in411 dL_odds_9 (fun H locs X => ?_)
    refine lv_goto (tgt := 17) C.1 C.2.1 dL_odds_10 (by decide) ?_
    refine lv_iconst (v := 0) C.1 C.2.1 dL_odds_17 (by decide) ?_
    exact rtW C X rfl rfl dL_odds_18
  · refine axI X (runXV C G X q_X11_odds k_1587 k_1588 k_1586 (rcX11 G X kd_0) (c_X11_odds l E hT e9) rfl hl.1 rfl (Nat.le_of_ble_eq_true rfl) ⟨Nat.le_of_ble_eq_true rfl, Nat.le_of_ble_eq_true rfl⟩ ⟨Nat.le_of_ble_eq_true rfl, Nat.le_of_ble_eq_true rfl⟩ dL_odds_5) (fun r9 H locs er X => nomatch er) (fun x8 H locs q9 ce er X hz hv hcl => ?_)
    rw [← Sum.inr.inj er] at hcl
    obtain ⟨rfl, hr⟩ := hx1_s h
    rw [← hr]
    refine vx_catch C.hown [] ⟨0, 10, 13, 13⟩ [] (by rw [T0]; rfl) (fun z hz => nomatch hz) (by decide) (by decide) (C.ts _ k_797) (cst_ G (a := exN 2) (b := "java/lang/IllegalArgumentException") (by decide +kernel)) hz hv hcl ?_
    refine lv_astore (lv' := [(4, .ref q9), (0, .ref (gB E + 0)), (1, .int x1), (2, .int x2), (3, .ref (gB E + 411))]) C.1 C.2.1 dL_odds_13 hl (by decide) rfl (fun ls hl => ?_)
    refine lv_iconst (v := 1) C.1 C.2.1 dL_odds_15 (by decide) ?_
    exact rtW C X rfl rfl dL_odds_16
theorem c_L_ahead (l : Launch) (E : GE) (hT : l.stackTraces = false) {σ : Mem} {x1 x2 x3 : Int32} {r : Int32 × Mem} (h : L_ahead x1 x2 x3 σ = some r) : CtW l E yL_ahead cL_ahead 6 [(0, 12, 15, 24), (0, 12, 19, 13), (0, 12, 23, 26)] 14 3 [.ref (gB E + 0), .int x1, .int x2, .int x3, .ref (gB E + 411)] σ r.1 r.2 := by
  refine ofWC (cc := cL_ahead) (maxL := 6) (ret := (some .int)) (by decide) rfl ?_
  intro p e s m args below meth c s₁ B hml hv
  obtain ⟨rfl, G, X⟩ := start hv
  obtain ⟨C, T0⟩ := cxofW B hml
  have hl := lv_entry [.ref (gB E + 0), .int x1, .int x2, .int x3, .ref (gB E + 411)] (n := 6) (Nat.le_of_ble_eq_true rfl)
  rw [lg_entry_eq]
  generalize (lg_sl [.ref (gB E + 0), .int x1, .int x2, .int x3, .ref (gB E + 411)] ++ List.replicate (6 - (lg_sl [.ref (gB E + 0), .int x1, .int x2, .int x3, .ref (gB E + 411)]).length) Slot.unset).toArray = ls at hl ⊢
  unfold L_ahead at h
  refine lv_aload C.1 C.2.1 dL_ahead_0 (lv_at hl 4 rfl) ?_
  refine lv_iconst (v := 0) C.1 C.2.1 dL_ahead_2 (by decide) ?_
  refine lv_aload_n C.1 C.2.1 dL_ahead_3 rfl (lv_at hl 0 rfl) ?_
  refine lv_iload_n C.1 C.2.1 dL_ahead_4 rfl (lv_at hl 1 rfl) ?_
  refine lv_iload_n C.1 C.2.1 dL_ahead_5 rfl (lv_at hl 2 rfl) ?_
  refine lv_iload_n C.1 C.2.1 dL_ahead_6 rfl (lv_at hl 3 rfl) ?_
  rcases bndx2 h with ⟨v, σ1, e9, h⟩ | ⟨x9, σ1, e9, h⟩
  · refine axI X (runXV C G X q_X11_ahead k_1602 k_1603 k_1601 (rcX11 G X kd_0) (c_X11_ahead l E hT e9) rfl hl.1 rfl (Nat.le_of_ble_eq_true rfl) ⟨Nat.le_of_ble_eq_true rfl, Nat.le_of_ble_eq_true rfl⟩ ⟨Nat.le_of_ble_eq_true rfl, Nat.le_of_ble_eq_true rfl⟩ dL_ahead_7) (fun r9 H locs er X => ?_) (fun x9 H locs q9 ce er X hz hv hcl => nomatch er)
    rw [← Sum.inl.inj er, ← Option.some.inj h]
    refine lv_i2l C.1 C.2.1 dL_ahead_10 rfl ?_
    refine ast_o C G X (k := 411) (x := v) kd411 in411 dL_ahead_11 (fun H locs X => ?_)
    refine lv_goto (tgt := 27) C.1 C.2.1 dL_ahead_12 (by decide) ?_
    refine lv_iconst (v := 0) C.1 C.2.1 dL_ahead_27 (by decide) ?_
    exact rtW C X rfl rfl dL_ahead_28
  · refine axI X (runXV C G X q_X11_ahead k_1602 k_1603 k_1601 (rcX11 G X kd_0) (c_X11_ahead l E hT e9) rfl hl.1 rfl (Nat.le_of_ble_eq_true rfl) ⟨Nat.le_of_ble_eq_true rfl, Nat.le_of_ble_eq_true rfl⟩ ⟨Nat.le_of_ble_eq_true rfl, Nat.le_of_ble_eq_true rfl⟩ dL_ahead_7) (fun r9 H locs er X => nomatch er) (fun x8 H locs q9 ce er X hz hv hcl => ?_)
    rw [← Sum.inr.inj er] at hcl
    rcases hx3_s h with ⟨rfl, hr⟩ | ⟨rfl, hr⟩ | ⟨rfl, hr⟩
    · rw [← hr]
      refine vx_catch C.hown [] ⟨0, 12, 15, 24⟩ [⟨0, 12, 19, 13⟩, ⟨0, 12, 23, 26⟩] (by rw [T0]; rfl) (fun z hz => nomatch hz) (by decide) (by decide) (C.ts _ k_1156) (cst_ G (a := exN 1) (b := "java/lang/IndexOutOfBoundsException") (by decide +kernel)) hz hv hcl ?_
      refine lv_astore (lv' := [(5, .ref q9), (0, .ref (gB E + 0)), (1, .int x1), (2, .int x2), (3, .int x3), (4, .ref (gB E + 411))]) C.1 C.2.1 dL_ahead_15 hl (by decide) rfl (fun ls hl => ?_)
      refine lv_iconst (v := 1) C.1 C.2.1 dL_ahead_17 (by decide) ?_
      exact rtW C X rfl rfl dL_ahead_18
    · rw [← hr]
      refine vx_catch C.hown [⟨0, 12, 15, 24⟩] ⟨0, 12, 19, 13⟩ [⟨0, 12, 23, 26⟩] (by rw [T0]; rfl) (fun z hz => by
          simp only [List.mem_cons, List.not_mem_nil, or_false] at hz
          subst hz
          exact ncs_ C G (by decide) k_1156 (by decide +kernel)) (by decide) (by decide) (C.ts _ k_797) (cst_ G (a := exN 2) (b := "java/lang/IllegalArgumentException") (by decide +kernel)) hz hv hcl ?_
      refine lv_astore (lv' := [(5, .ref q9), (0, .ref (gB E + 0)), (1, .int x1), (2, .int x2), (3, .int x3), (4, .ref (gB E + 411))]) C.1 C.2.1 dL_ahead_19 hl (by decide) rfl (fun ls hl => ?_)
      refine lv_iconst (v := 2) C.1 C.2.1 dL_ahead_21 (by decide) ?_
      exact rtW C X rfl rfl dL_ahead_22
    · rw [← hr]
      refine vx_catch C.hown [⟨0, 12, 15, 24⟩, ⟨0, 12, 19, 13⟩] ⟨0, 12, 23, 26⟩ [] (by rw [T0]; rfl) (fun z hz => by
          simp only [List.mem_cons, List.not_mem_nil, or_false] at hz
          rcases hz with rfl | rfl
          · exact ncs_ C G (by decide) k_1156 (by decide +kernel)
          · exact ncs_ C G (by decide) k_797 (by decide +kernel)) (by decide) (by decide) (C.ts _ k_1157) (cst_ G (a := exN 4) (b := "java/util/NoSuchElementException") (by decide +kernel)) hz hv hcl ?_
      refine lv_astore (lv' := [(5, .ref q9), (0, .ref (gB E + 0)), (1, .int x1), (2, .int x2), (3, .int x3), (4, .ref (gB E + 411))]) C.1 C.2.1 dL_ahead_23 hl (by decide) rfl (fun ls hl => ?_)
      refine lv_iconst (v := 3) C.1 C.2.1 dL_ahead_25 (by decide) ?_
      exact rtW C X rfl rfl dL_ahead_26
theorem c_L_trial (l : Launch) (E : GE) (hT : l.stackTraces = false) {σ : Mem} {x1 x2 : Int32} {r : Int32 × Mem} (h : L_trial x1 x2 σ = some r) : CtW l E yL_trial cL_trial 5 [(0, 10, 13, 13)] 14 1 [.ref (gB E + 0), .int x1, .int x2, .ref (gB E + 411)] σ r.1 r.2 := by
  refine ofWC (cc := cL_trial) (maxL := 5) (ret := (some .int)) (by decide) rfl ?_
  intro p e s m args below meth c s₁ B hml hv
  obtain ⟨rfl, G, X⟩ := start hv
  obtain ⟨C, T0⟩ := cxofW B hml
  have hl := lv_entry [.ref (gB E + 0), .int x1, .int x2, .ref (gB E + 411)] (n := 5) (Nat.le_of_ble_eq_true rfl)
  rw [lg_entry_eq]
  generalize (lg_sl [.ref (gB E + 0), .int x1, .int x2, .ref (gB E + 411)] ++ List.replicate (5 - (lg_sl [.ref (gB E + 0), .int x1, .int x2, .ref (gB E + 411)]).length) Slot.unset).toArray = ls at hl ⊢
  unfold L_trial at h
  refine lv_aload_n C.1 C.2.1 dL_trial_0 rfl (lv_at hl 3 rfl) ?_
  refine lv_iconst (v := 0) C.1 C.2.1 dL_trial_1 (by decide) ?_
  refine lv_aload_n C.1 C.2.1 dL_trial_2 rfl (lv_at hl 0 rfl) ?_
  refine lv_iload_n C.1 C.2.1 dL_trial_3 rfl (lv_at hl 1 rfl) ?_
  refine lv_iload_n C.1 C.2.1 dL_trial_4 rfl (lv_at hl 2 rfl) ?_
  rcases bndx2 h with ⟨v, σ1, e9, h⟩ | ⟨x9, σ1, e9, h⟩
  · refine axI X (runXV C G X q_X11_trial k_1614 k_1615 k_1613 (rcX11 G X kd_0) (c_X11_trial l E hT e9) rfl hl.1 rfl (Nat.le_of_ble_eq_true rfl) ⟨Nat.le_of_ble_eq_true rfl, Nat.le_of_ble_eq_true rfl⟩ ⟨Nat.le_of_ble_eq_true rfl, Nat.le_of_ble_eq_true rfl⟩ dL_trial_5) (fun r9 H locs er X => ?_) (fun x9 H locs q9 ce er X hz hv hcl => nomatch er)
    rw [← Sum.inl.inj er, ← Option.some.inj h]
    refine lv_i2l C.1 C.2.1 dL_trial_8 rfl ?_
    refine ast_o C G X (k := 411) (x := v) kd411 in411 dL_trial_9 (fun H locs X => ?_)
    refine lv_goto (tgt := 17) C.1 C.2.1 dL_trial_10 (by decide) ?_
    refine lv_iconst (v := 0) C.1 C.2.1 dL_trial_17 (by decide) ?_
    exact rtW C X rfl rfl dL_trial_18
  · refine axI X (runXV C G X q_X11_trial k_1614 k_1615 k_1613 (rcX11 G X kd_0) (c_X11_trial l E hT e9) rfl hl.1 rfl (Nat.le_of_ble_eq_true rfl) ⟨Nat.le_of_ble_eq_true rfl, Nat.le_of_ble_eq_true rfl⟩ ⟨Nat.le_of_ble_eq_true rfl, Nat.le_of_ble_eq_true rfl⟩ dL_trial_5) (fun r9 H locs er X => nomatch er) (fun x8 H locs q9 ce er X hz hv hcl => ?_)
    rw [← Sum.inr.inj er] at hcl
    obtain ⟨rfl, hr⟩ := hx1_s h
    rw [← hr]
    refine vx_catch C.hown [] ⟨0, 10, 13, 13⟩ [] (by rw [T0]; rfl) (fun z hz => nomatch hz) (by decide) (by decide) (C.ts _ k_797) (cst_ G (a := exN 2) (b := "java/lang/IllegalArgumentException") (by decide +kernel)) hz hv hcl ?_
    refine lv_astore (lv' := [(4, .ref q9), (0, .ref (gB E + 0)), (1, .int x1), (2, .int x2), (3, .ref (gB E + 411))]) C.1 C.2.1 dL_trial_13 hl (by decide) rfl (fun ls hl => ?_)
    refine lv_iconst (v := 1) C.1 C.2.1 dL_trial_15 (by decide) ?_
    exact rtW C X rfl rfl dL_trial_16
theorem c_L_span (l : Launch) (E : GE) (hT : l.stackTraces = false) {σ : Mem} {x1 x2 : Int32} {r : Int32 × Mem} (h : L_span x1 x2 σ = some r) : CtW l E yL_span cL_span 5 [(0, 10, 13, 13)] 14 1 [.ref (gB E + 0), .int x1, .int x2, .ref (gB E + 411)] σ r.1 r.2 := by
  refine ofWC (cc := cL_span) (maxL := 5) (ret := (some .int)) (by decide) rfl ?_
  intro p e s m args below meth c s₁ B hml hv
  obtain ⟨rfl, G, X⟩ := start hv
  obtain ⟨C, T0⟩ := cxofW B hml
  have hl := lv_entry [.ref (gB E + 0), .int x1, .int x2, .ref (gB E + 411)] (n := 5) (Nat.le_of_ble_eq_true rfl)
  rw [lg_entry_eq]
  generalize (lg_sl [.ref (gB E + 0), .int x1, .int x2, .ref (gB E + 411)] ++ List.replicate (5 - (lg_sl [.ref (gB E + 0), .int x1, .int x2, .ref (gB E + 411)]).length) Slot.unset).toArray = ls at hl ⊢
  unfold L_span at h
  refine lv_aload_n C.1 C.2.1 dL_span_0 rfl (lv_at hl 3 rfl) ?_
  refine lv_iconst (v := 0) C.1 C.2.1 dL_span_1 (by decide) ?_
  refine lv_aload_n C.1 C.2.1 dL_span_2 rfl (lv_at hl 0 rfl) ?_
  refine lv_iload_n C.1 C.2.1 dL_span_3 rfl (lv_at hl 1 rfl) ?_
  refine lv_iload_n C.1 C.2.1 dL_span_4 rfl (lv_at hl 2 rfl) ?_
  rcases bndx2 h with ⟨v, σ1, e9, h⟩ | ⟨x9, σ1, e9, h⟩
  · refine axI X (runXV C G X q_X11_span k_1621 k_1622 k_1620 (rcX11 G X kd_0) (c_X11_span l E hT e9) rfl hl.1 rfl (Nat.le_of_ble_eq_true rfl) ⟨Nat.le_of_ble_eq_true rfl, Nat.le_of_ble_eq_true rfl⟩ ⟨Nat.le_of_ble_eq_true rfl, Nat.le_of_ble_eq_true rfl⟩ dL_span_5) (fun r9 H locs er X => ?_) (fun x9 H locs q9 ce er X hz hv hcl => nomatch er)
    rw [← Sum.inl.inj er, ← Option.some.inj h]
    refine lv_i2l C.1 C.2.1 dL_span_8 rfl ?_
    refine ast_o C G X (k := 411) (x := v) kd411 in411 dL_span_9 (fun H locs X => ?_)
    refine lv_goto (tgt := 17) C.1 C.2.1 dL_span_10 (by decide) ?_
    refine lv_iconst (v := 0) C.1 C.2.1 dL_span_17 (by decide) ?_
    exact rtW C X rfl rfl dL_span_18
  · refine axI X (runXV C G X q_X11_span k_1621 k_1622 k_1620 (rcX11 G X kd_0) (c_X11_span l E hT e9) rfl hl.1 rfl (Nat.le_of_ble_eq_true rfl) ⟨Nat.le_of_ble_eq_true rfl, Nat.le_of_ble_eq_true rfl⟩ ⟨Nat.le_of_ble_eq_true rfl, Nat.le_of_ble_eq_true rfl⟩ dL_span_5) (fun r9 H locs er X => nomatch er) (fun x8 H locs q9 ce er X hz hv hcl => ?_)
    rw [← Sum.inr.inj er] at hcl
    obtain ⟨rfl, hr⟩ := hx1_s h
    rw [← hr]
    refine vx_catch C.hown [] ⟨0, 10, 13, 13⟩ [] (by rw [T0]; rfl) (fun z hz => nomatch hz) (by decide) (by decide) (C.ts _ k_797) (cst_ G (a := exN 2) (b := "java/lang/IllegalArgumentException") (by decide +kernel)) hz hv hcl ?_
    refine lv_astore (lv' := [(4, .ref q9), (0, .ref (gB E + 0)), (1, .int x1), (2, .int x2), (3, .ref (gB E + 411))]) C.1 C.2.1 dL_span_13 hl (by decide) rfl (fun ls hl => ?_)
    refine lv_iconst (v := 1) C.1 C.2.1 dL_span_15 (by decide) ?_
    exact rtW C X rfl rfl dL_span_16
theorem c_L_led (l : Launch) (E : GE) (hT : l.stackTraces = false) {σ : Mem} {x1 x2 : Int32} {r : Int32 × Mem} (h : L_led x1 x2 σ = some r) : CtW l E yL_led cL_led 5 [(0, 10, 13, 24)] 14 1 [.ref (gB E + 0), .int x1, .int x2, .ref (gB E + 411)] σ r.1 r.2 := by
  refine ofWC (cc := cL_led) (maxL := 5) (ret := (some .int)) (by decide) rfl ?_
  intro p e s m args below meth c s₁ B hml hv
  obtain ⟨rfl, G, X⟩ := start hv
  obtain ⟨C, T0⟩ := cxofW B hml
  have hl := lv_entry [.ref (gB E + 0), .int x1, .int x2, .ref (gB E + 411)] (n := 5) (Nat.le_of_ble_eq_true rfl)
  rw [lg_entry_eq]
  generalize (lg_sl [.ref (gB E + 0), .int x1, .int x2, .ref (gB E + 411)] ++ List.replicate (5 - (lg_sl [.ref (gB E + 0), .int x1, .int x2, .ref (gB E + 411)]).length) Slot.unset).toArray = ls at hl ⊢
  unfold L_led at h
  refine lv_aload_n C.1 C.2.1 dL_led_0 rfl (lv_at hl 3 rfl) ?_
  refine lv_iconst (v := 0) C.1 C.2.1 dL_led_1 (by decide) ?_
  refine lv_aload_n C.1 C.2.1 dL_led_2 rfl (lv_at hl 0 rfl) ?_
  refine lv_iload_n C.1 C.2.1 dL_led_3 rfl (lv_at hl 1 rfl) ?_
  refine lv_iload_n C.1 C.2.1 dL_led_4 rfl (lv_at hl 2 rfl) ?_
  rcases bndx h with ⟨v, e9, h⟩ | ⟨x9, e9, h⟩
  · refine axI X (runXV C G X q_X11_led k_1630 k_1631 k_1629 (rcX11 G X kd_0) (c_X11_led l E hT e9) rfl hl.1 rfl (Nat.le_of_ble_eq_true rfl) ⟨Nat.le_of_ble_eq_true rfl, Nat.le_of_ble_eq_true rfl⟩ ⟨Nat.le_of_ble_eq_true rfl, Nat.le_of_ble_eq_true rfl⟩ dL_led_5) (fun r9 H locs er X => ?_) (fun x9 H locs q9 ce er X hz hv hcl => nomatch er)
    rw [← Sum.inl.inj er, ← Option.some.inj h]
    refine lv_i2l C.1 C.2.1 dL_led_8 rfl ?_
    refine ast_o C G X (k := 411) (x := v) kd411 in411 dL_led_9 (fun H locs X => ?_)
    refine lv_goto (tgt := 17) C.1 C.2.1 dL_led_10 (by decide) ?_
    refine lv_iconst (v := 0) C.1 C.2.1 dL_led_17 (by decide) ?_
    exact rtW C X rfl rfl dL_led_18
  · refine axI X (runXV C G X q_X11_led k_1630 k_1631 k_1629 (rcX11 G X kd_0) (c_X11_led l E hT e9) rfl hl.1 rfl (Nat.le_of_ble_eq_true rfl) ⟨Nat.le_of_ble_eq_true rfl, Nat.le_of_ble_eq_true rfl⟩ ⟨Nat.le_of_ble_eq_true rfl, Nat.le_of_ble_eq_true rfl⟩ dL_led_5) (fun r9 H locs er X => nomatch er) (fun x8 H locs q9 ce er X hz hv hcl => ?_)
    rw [← Sum.inr.inj er] at hcl
    obtain ⟨rfl, hr⟩ := hx1_s h
    rw [← hr]
    refine vx_catch C.hown [] ⟨0, 10, 13, 24⟩ [] (by rw [T0]; rfl) (fun z hz => nomatch hz) (by decide) (by decide) (C.ts _ k_1156) (cst_ G (a := exN 1) (b := "java/lang/IndexOutOfBoundsException") (by decide +kernel)) hz hv hcl ?_
    refine lv_astore (lv' := [(4, .ref q9), (0, .ref (gB E + 0)), (1, .int x1), (2, .int x2), (3, .ref (gB E + 411))]) C.1 C.2.1 dL_led_13 hl (by decide) rfl (fun ls hl => ?_)
    refine lv_iconst (v := 1) C.1 C.2.1 dL_led_15 (by decide) ?_
    exact rtW C X rfl rfl dL_led_16
theorem c_L_log (l : Launch) (E : GE) (hT : l.stackTraces = false) {σ : Mem} {x1 x2 : Int32} {r : Int32 × Mem} (h : L_log x1 x2 σ = some r) : CtW l E yL_log cL_log 5 [(0, 10, 13, 26)] 13 1 [.ref (gB E + 0), .int x1, .int x2, .ref (gB E + 411)] σ r.1 r.2 := by
  refine ofWC (cc := cL_log) (maxL := 5) (ret := (some .int)) (by decide) rfl ?_
  intro p e s m args below meth c s₁ B hml hv
  obtain ⟨rfl, G, X⟩ := start hv
  obtain ⟨C, T0⟩ := cxofW B hml
  have hl := lv_entry [.ref (gB E + 0), .int x1, .int x2, .ref (gB E + 411)] (n := 5) (Nat.le_of_ble_eq_true rfl)
  rw [lg_entry_eq]
  generalize (lg_sl [.ref (gB E + 0), .int x1, .int x2, .ref (gB E + 411)] ++ List.replicate (5 - (lg_sl [.ref (gB E + 0), .int x1, .int x2, .ref (gB E + 411)]).length) Slot.unset).toArray = ls at hl ⊢
  unfold L_log at h
  refine lv_aload_n C.1 C.2.1 dL_log_0 rfl (lv_at hl 3 rfl) ?_
  refine lv_iconst (v := 0) C.1 C.2.1 dL_log_1 (by decide) ?_
  refine lv_aload_n C.1 C.2.1 dL_log_2 rfl (lv_at hl 0 rfl) ?_
  refine lv_iload_n C.1 C.2.1 dL_log_3 rfl (lv_at hl 1 rfl) ?_
  refine lv_iload_n C.1 C.2.1 dL_log_4 rfl (lv_at hl 2 rfl) ?_
  rcases bndx h with ⟨v, e9, h⟩ | ⟨x9, e9, h⟩
  · refine axI X (runXV C G X q_X11_log k_1641 k_1642 k_1640 (rcX11 G X kd_0) (c_X11_log l E hT e9) rfl hl.1 rfl (Nat.le_of_ble_eq_true rfl) ⟨Nat.le_of_ble_eq_true rfl, Nat.le_of_ble_eq_true rfl⟩ ⟨Nat.le_of_ble_eq_true rfl, Nat.le_of_ble_eq_true rfl⟩ dL_log_5) (fun r9 H locs er X => ?_) (fun x9 H locs q9 ce er X hz hv hcl => nomatch er)
    rw [← Sum.inl.inj er, ← Option.some.inj h]
    refine lv_i2l C.1 C.2.1 dL_log_8 rfl ?_
    refine ast_o C G X (k := 411) (x := v) kd411 in411 dL_log_9 (fun H locs X => ?_)
    refine lv_goto (tgt := 17) C.1 C.2.1 dL_log_10 (by decide) ?_
    refine lv_iconst (v := 0) C.1 C.2.1 dL_log_17 (by decide) ?_
    exact rtW C X rfl rfl dL_log_18
  · refine axI X (runXV C G X q_X11_log k_1641 k_1642 k_1640 (rcX11 G X kd_0) (c_X11_log l E hT e9) rfl hl.1 rfl (Nat.le_of_ble_eq_true rfl) ⟨Nat.le_of_ble_eq_true rfl, Nat.le_of_ble_eq_true rfl⟩ ⟨Nat.le_of_ble_eq_true rfl, Nat.le_of_ble_eq_true rfl⟩ dL_log_5) (fun r9 H locs er X => nomatch er) (fun x8 H locs q9 ce er X hz hv hcl => ?_)
    rw [← Sum.inr.inj er] at hcl
    obtain ⟨rfl, hr⟩ := hx1_s h
    rw [← hr]
    refine vx_catch C.hown [] ⟨0, 10, 13, 26⟩ [] (by rw [T0]; rfl) (fun z hz => nomatch hz) (by decide) (by decide) (C.ts _ k_1157) (cst_ G (a := exN 4) (b := "java/util/NoSuchElementException") (by decide +kernel)) hz hv hcl ?_
    refine lv_astore (lv' := [(4, .ref q9), (0, .ref (gB E + 0)), (1, .int x1), (2, .int x2), (3, .ref (gB E + 411))]) C.1 C.2.1 dL_log_13 hl (by decide) rfl (fun ls hl => ?_)
    refine lv_iconst (v := 1) C.1 C.2.1 dL_log_15 (by decide) ?_
    exact rtW C X rfl rfl dL_log_16
