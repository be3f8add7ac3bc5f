/-! the words of the law among the words of the tables, by their places -/
set_option maxRecDepth 20000 in
theorem lwR1 : ∀ w ∈ wsL_law0_r1, w ∈ lw_tbl := fun w h => (goodIn_p wsL_law0_r1 [101, 104] rfl (by decide +kernel) w h).1
set_option maxRecDepth 20000 in
theorem lwR2 : ∀ w ∈ wsL_law0_r2, w ∈ lw_tbl := fun w h => (goodIn_p wsL_law0_r2 [] rfl (by decide +kernel) w h).1
set_option maxRecDepth 20000 in
theorem lwR3 : ∀ w ∈ wsL_law0_r3, w ∈ lw_tbl := fun w h => (goodIn_p wsL_law0_r3 [109, 125, 141] rfl (by decide +kernel) w h).1
set_option maxRecDepth 20000 in
theorem lwR4 : ∀ w ∈ wsL_law0_r4, w ∈ lw_tbl := fun w h => (goodIn_p wsL_law0_r4 [197, 213, 233, 284] rfl (by decide +kernel) w h).1
set_option maxRecDepth 20000 in
theorem lwR5 : ∀ w ∈ wsL_law0_r5, w ∈ lw_tbl := fun w h => (goodIn_p wsL_law0_r5 [302, 319, 346] rfl (by decide +kernel) w h).1
set_option maxRecDepth 20000 in
theorem lwR6 : ∀ w ∈ wsL_law0_r6, w ∈ lw_tbl := fun w h => (goodIn_p wsL_law0_r6 [372, 377, 381, 1136] rfl (by decide +kernel) w h).1
set_option maxRecDepth 20000 in
theorem lwR7 : ∀ w ∈ wsL_law0_r7, w ∈ lw_tbl := fun w h => (goodIn_p wsL_law0_r7 [] rfl (by decide +kernel) w h).1
set_option maxRecDepth 20000 in
theorem lwR8 : ∀ w ∈ wsL_law0_r8, w ∈ lw_tbl := fun w h => (goodIn_p wsL_law0_r8 [436, 440, 1289, 444] rfl (by decide +kernel) w h).1
set_option maxRecDepth 20000 in
theorem lwR9 : ∀ w ∈ wsL_law0_r9, w ∈ lw_tbl := fun w h => (goodIn_p wsL_law0_r9 [448, 1293, 1296, 452, 456, 459] rfl (by decide +kernel) w h).1
set_option maxRecDepth 20000 in
theorem lwR10 : ∀ w ∈ wsL_law0_r10, w ∈ lw_tbl := fun w h => (goodIn_p wsL_law0_r10 [463, 467, 471, 476, 480] rfl (by decide +kernel) w h).1
set_option maxRecDepth 20000 in
theorem lwR11 : ∀ w ∈ wsL_law0_r11, w ∈ lw_tbl := fun w h => (goodIn_p wsL_law0_r11 [485, 490, 494, 1300] rfl (by decide +kernel) w h).1
set_option maxRecDepth 20000 in
theorem lwR12 : ∀ w ∈ wsL_law0_r12, w ∈ lw_tbl := fun w h => (goodIn_p wsL_law0_r12 [1304, 1308, 1312, 1316, 1320] rfl (by decide +kernel) w h).1
set_option maxRecDepth 20000 in
theorem lwR13 : ∀ w ∈ wsL_law0_r13, w ∈ lw_tbl := fun w h => (goodIn_p wsL_law0_r13 [1324, 1328, 1332, 498, 502] rfl (by decide +kernel) w h).1
set_option maxRecDepth 20000 in
theorem lwR14 : ∀ w ∈ wsL_law0_r14, w ∈ lw_tbl := fun w h => (goodIn_p wsL_law0_r14 [507, 523, 533, 515, 519, 511] rfl (by decide +kernel) w h).1
set_option maxRecDepth 20000 in
theorem lwR15 : ∀ w ∈ wsL_law0_r15, w ∈ lw_tbl := fun w h => (goodIn_p wsL_law0_r15 [528, 537, 1336, 1340, 1344] rfl (by decide +kernel) w h).1
set_option maxRecDepth 20000 in
theorem lwR16 : ∀ w ∈ wsL_law0_r16, w ∈ lw_tbl := fun w h => (goodIn_p wsL_law0_r16 [1352, 1348, 1356, 1360, 1364, 1367] rfl (by decide +kernel) w h).1
set_option maxRecDepth 20000 in
theorem lwR17 : ∀ w ∈ wsL_law0_r17, w ∈ lw_tbl := fun w h => (goodIn_p wsL_law0_r17 [1053, 579, 597, 808] rfl (by decide +kernel) w h).1
set_option maxRecDepth 20000 in
theorem lwR18 : ∀ w ∈ wsL_law0_r18, w ∈ lw_tbl := fun w h => (goodIn_p wsL_law0_r18 [583, 587, 590, 593, 600] rfl (by decide +kernel) w h).1
set_option maxRecDepth 20000 in
theorem lwR19 : ∀ w ∈ wsL_law0_r19, w ∈ lw_tbl := fun w h => (goodIn_p wsL_law0_r19 [606, 1371, 1375, 1379, 1383] rfl (by decide +kernel) w h).1
set_option maxRecDepth 20000 in
theorem lwR20 : ∀ w ∈ wsL_law0_r20, w ∈ lw_tbl := fun w h => (goodIn_p wsL_law0_r20 [1387, 1391, 1394, 1285, 1122] rfl (by decide +kernel) w h).1
set_option maxRecDepth 20000 in
theorem lwR21 : ∀ w ∈ wsL_law0_r21, w ∈ lw_tbl := fun w h => (goodIn_p wsL_law0_r21 [713, 838, 1400, 1404, 541] rfl (by decide +kernel) w h).1
set_option maxRecDepth 20000 in
theorem lwR22 : ∀ w ∈ wsL_law0_r22, w ∈ lw_tbl := fun w h => (goodIn_p wsL_law0_r22 [545, 548, 552, 556, 1408, 1414] rfl (by decide +kernel) w h).1
set_option maxRecDepth 20000 in
theorem lwR23 : ∀ w ∈ wsL_law0_r23, w ∈ lw_tbl := fun w h => (goodIn_p wsL_law0_r23 [560, 564, 568, 575] rfl (by decide +kernel) w h).1
set_option maxRecDepth 20000 in
theorem lwR24 : ∀ w ∈ wsL_law0_r24, w ∈ lw_tbl := fun w h => (goodIn_p wsL_law0_r24 [610, 615, 619, 1418, 1422, 1426] rfl (by decide +kernel) w h).1
set_option maxRecDepth 20000 in
theorem lwR25 : ∀ w ∈ wsL_law0_r25, w ∈ lw_tbl := fun w h => (goodIn_p wsL_law0_r25 [1429, 1432, 624, 628, 1436, 1440] rfl (by decide +kernel) w h).1
set_option maxRecDepth 20000 in
theorem lwR26 : ∀ w ∈ wsL_law0_r26, w ∈ lw_tbl := fun w h => (goodIn_p wsL_law0_r26 [1444, 632, 636, 1448, 1452, 641] rfl (by decide +kernel) w h).1
set_option maxRecDepth 20000 in
theorem lwR27 : ∀ w ∈ wsL_law0_r27, w ∈ lw_tbl := fun w h => (goodIn_p wsL_law0_r27 [645, 1456, 1460, 1464, 649, 653] rfl (by decide +kernel) w h).1
set_option maxRecDepth 20000 in
theorem lwR28 : ∀ w ∈ wsL_law0_r28, w ∈ lw_tbl := fun w h => (goodIn_p wsL_law0_r28 [657, 661, 665, 669, 1468] rfl (by decide +kernel) w h).1
set_option maxRecDepth 20000 in
theorem lwR29 : ∀ w ∈ wsL_law0_r29, w ∈ lw_tbl := fun w h => (goodIn_p wsL_law0_r29 [1472, 1476, 1480, 1484, 673, 677, 680] rfl (by decide +kernel) w h).1
set_option maxRecDepth 20000 in
theorem lwR30 : ∀ w ∈ wsL_law0_r30, w ∈ lw_tbl := fun w h => (goodIn_p wsL_law0_r30 [684, 1488, 1492, 1496, 688] rfl (by decide +kernel) w h).1
set_option maxRecDepth 20000 in
theorem lwR31 : ∀ w ∈ wsL_law0_r31, w ∈ lw_tbl := fun w h => (goodIn_p wsL_law0_r31 [692, 696, 1500, 700, 705, 709] rfl (by decide +kernel) w h).1
set_option maxRecDepth 20000 in
theorem lwR32 : ∀ w ∈ wsL_law0_r32, w ∈ lw_tbl := fun w h => (goodIn_p wsL_law0_r32 [717, 721, 725, 729, 1504] rfl (by decide +kernel) w h).1
set_option maxRecDepth 20000 in
theorem lwR33 : ∀ w ∈ wsL_law0_r33, w ∈ lw_tbl := fun w h => (goodIn_p wsL_law0_r33 [1508, 734, 1512, 738, 742] rfl (by decide +kernel) w h).1
set_option maxRecDepth 20000 in
theorem lwR34 : ∀ w ∈ wsL_law0_r34, w ∈ lw_tbl := fun w h => (goodIn_p wsL_law0_r34 [748, 1516, 752, 1520, 756, 760] rfl (by decide +kernel) w h).1
set_option maxRecDepth 20000 in
theorem lwR35 : ∀ w ∈ wsL_law0_r35, w ∈ lw_tbl := fun w h => (goodIn_p wsL_law0_r35 [1532, 1536, 764, 767, 1540, 1544, 1547] rfl (by decide +kernel) w h).1
set_option maxRecDepth 20000 in
theorem lwR36 : ∀ w ∈ wsL_law0_r36, w ∈ lw_tbl := fun w h => (goodIn_p wsL_law0_r36 [772, 1560, 776, 780] rfl (by decide +kernel) w h).1
set_option maxRecDepth 20000 in
theorem lwR37 : ∀ w ∈ wsL_law0_r37, w ∈ lw_tbl := fun w h => (goodIn_p wsL_law0_r37 [786, 791, 1564, 1568] rfl (by decide +kernel) w h).1
set_option maxRecDepth 20000 in
theorem lwR38 : ∀ w ∈ wsL_law0_r38, w ∈ lw_tbl := fun w h => (goodIn_p wsL_law0_r38 [796, 800, 1572, 1576, 804, 1580] rfl (by decide +kernel) w h).1
set_option maxRecDepth 20000 in
theorem lwR39 : ∀ w ∈ wsL_law0_r39, w ∈ lw_tbl := fun w h => (goodIn_p wsL_law0_r39 [813, 1524, 1528, 817, 1552, 821] rfl (by decide +kernel) w h).1
set_option maxRecDepth 20000 in
theorem lwR40 : ∀ w ∈ wsL_law0_r40, w ∈ lw_tbl := fun w h => (goodIn_p wsL_law0_r40 [1556, 825, 829, 834, 843] rfl (by decide +kernel) w h).1
set_option maxRecDepth 20000 in
theorem lwR41 : ∀ w ∈ wsL_law0_r41, w ∈ lw_tbl := fun w h => (goodIn_p wsL_law0_r41 [1584, 1589, 847, 851, 854, 858] rfl (by decide +kernel) w h).1
set_option maxRecDepth 20000 in
theorem lwR42 : ∀ w ∈ wsL_law0_r42, w ∈ lw_tbl := fun w h => (goodIn_p wsL_law0_r42 [1593, 862, 866, 1597, 1601] rfl (by decide +kernel) w h).1
set_option maxRecDepth 20000 in
theorem lwR43 : ∀ w ∈ wsL_law0_r43, w ∈ lw_tbl := fun w h => (goodIn_p wsL_law0_r43 [870, 874, 1605, 879, 883] rfl (by decide +kernel) w h).1
set_option maxRecDepth 20000 in
theorem lwR44 : ∀ w ∈ wsL_law0_r44, w ∈ lw_tbl := fun w h => (goodIn_p wsL_law0_r44 [886, 1609, 890, 1613, 894, 898] rfl (by decide +kernel) w h).1
set_option maxRecDepth 20000 in
theorem lwR45 : ∀ w ∈ wsL_law0_r45, w ∈ lw_tbl := fun w h => (goodIn_p wsL_law0_r45 [901, 1617, 1621, 1625, 907] rfl (by decide +kernel) w h).1
set_option maxRecDepth 20000 in
theorem lwR46 : ∀ w ∈ wsL_law0_r46, w ∈ lw_tbl := fun w h => (goodIn_p wsL_law0_r46 [914, 1629, 920, 924] rfl (by decide +kernel) w h).1
set_option maxRecDepth 20000 in
theorem lwR47 : ∀ w ∈ wsL_law0_r47, w ∈ lw_tbl := fun w h => (goodIn_p wsL_law0_r47 [1633, 928, 1637, 932, 936] rfl (by decide +kernel) w h).1
set_option maxRecDepth 20000 in
theorem lwR48 : ∀ w ∈ wsL_law0_r48, w ∈ lw_tbl := fun w h => (goodIn_p wsL_law0_r48 [939, 945, 1641, 1645, 1648, 949, 953] rfl (by decide +kernel) w h).1
set_option maxRecDepth 20000 in
theorem lwR49 : ∀ w ∈ wsL_law0_r49, w ∈ lw_tbl := fun w h => (goodIn_p wsL_law0_r49 [1652, 957, 961, 968, 1656] rfl (by decide +kernel) w h).1
set_option maxRecDepth 20000 in
theorem lwR50 : ∀ w ∈ wsL_law0_r50, w ∈ lw_tbl := fun w h => (goodIn_p wsL_law0_r50 [1660, 972, 976, 980, 984] rfl (by decide +kernel) w h).1
set_option maxRecDepth 20000 in
theorem lwR51 : ∀ w ∈ wsL_law0_r51, w ∈ lw_tbl := fun w h => (goodIn_p wsL_law0_r51 [1664, 1668, 990, 994, 997, 1001] rfl (by decide +kernel) w h).1
set_option maxRecDepth 20000 in
theorem lwR52 : ∀ w ∈ wsL_law0_r52, w ∈ lw_tbl := fun w h => (goodIn_p wsL_law0_r52 [1672, 1675, 1678, 1005, 1009, 1682] rfl (by decide +kernel) w h).1
set_option maxRecDepth 20000 in
theorem lwR53 : ∀ w ∈ wsL_law0_r53, w ∈ lw_tbl := fun w h => (goodIn_p wsL_law0_r53 [1686, 1015, 1019, 1024, 1690] rfl (by decide +kernel) w h).1
set_option maxRecDepth 20000 in
theorem lwR54 : ∀ w ∈ wsL_law0_r54, w ∈ lw_tbl := fun w h => (goodIn_p wsL_law0_r54 [1694, 1028, 1032, 1699, 1036, 1040] rfl (by decide +kernel) w h).1
set_option maxRecDepth 20000 in
theorem lwR55 : ∀ w ∈ wsL_law0_r55, w ∈ lw_tbl := fun w h => (goodIn_p wsL_law0_r55 [1703, 1044, 1707, 1711, 1131] rfl (by decide +kernel) w h).1
set_option maxRecDepth 20000 in
theorem lwR56 : ∀ w ∈ wsL_law0_r56, w ∈ lw_tbl := fun w h => (goodIn_p wsL_law0_r56 [1715] rfl (by decide +kernel) w h).1
set_option maxRecDepth 20000 in
theorem lw_wsX110 : ∀ w ∈ wsX110, w ∈ lw_tbl := fun w h => (goodIn_p wsX110 [] rfl (by decide +kernel) w h).1
set_option maxRecDepth 20000 in
theorem lw_wsX120 : ∀ w ∈ wsX120, w ∈ lw_tbl := fun w h => (goodIn_p wsX120 [] rfl (by decide +kernel) w h).1
set_option maxRecDepth 20000 in
theorem lw_wsX80 : ∀ w ∈ wsX80, w ∈ lw_tbl := fun w h => (goodIn_p wsX80 [] rfl (by decide +kernel) w h).1
set_option maxRecDepth 20000 in
theorem lw_wsX90 : ∀ w ∈ wsX90, w ∈ lw_tbl := fun w h => (goodIn_p wsX90 [] rfl (by decide +kernel) w h).1
set_option maxRecDepth 20000 in
theorem lw_wsX20 : ∀ w ∈ wsX20, w ∈ lw_tbl := fun w h => (goodIn_p wsX20 [] rfl (by decide +kernel) w h).1
set_option maxRecDepth 20000 in
theorem lw_wsX60 : ∀ w ∈ wsX60, w ∈ lw_tbl := fun w h => (goodIn_p wsX60 [] rfl (by decide +kernel) w h).1
set_option maxRecDepth 20000 in
theorem lw_wsX30 : ∀ w ∈ wsX30, w ∈ lw_tbl := fun w h => (goodIn_p wsX30 [] rfl (by decide +kernel) w h).1
set_option maxRecDepth 20000 in
theorem lw_wsX100 : ∀ w ∈ wsX100, w ∈ lw_tbl := fun w h => (goodIn_p wsX100 [] rfl (by decide +kernel) w h).1
set_option maxRecDepth 20000 in
theorem lw_wsX00 : ∀ w ∈ wsX00, w ∈ lw_tbl := fun w h => (goodIn_p wsX00 [] rfl (by decide +kernel) w h).1
set_option maxRecDepth 20000 in
theorem lw_wsX10 : ∀ w ∈ wsX10, w ∈ lw_tbl := fun w h => (goodIn_p wsX10 [] rfl (by decide +kernel) w h).1
set_option maxRecDepth 20000 in
theorem lw_wsX70 : ∀ w ∈ wsX70, w ∈ lw_tbl := fun w h => (goodIn_p wsX70 [] rfl (by decide +kernel) w h).1
set_option maxRecDepth 20000 in
theorem lw_wsX40 : ∀ w ∈ wsX40, w ∈ lw_tbl := fun w h => (goodIn_p wsX40 [] rfl (by decide +kernel) w h).1
set_option maxRecDepth 20000 in
theorem lw_wsX50 : ∀ w ∈ wsX50, w ∈ lw_tbl := fun w h => (goodIn_p wsX50 [] rfl (by decide +kernel) w h).1
theorem lwRR : ∀ w ∈ ((wsL_law0_r1 ++ (wsL_law0_r2 ++ (wsL_law0_r3 ++ (wsL_law0_r4 ++ (wsL_law0_r5 ++ (wsL_law0_r6 ++ (wsL_law0_r7 ++ (wsL_law0_r8 ++ (wsL_law0_r9 ++ (wsL_law0_r10 ++ (wsL_law0_r11 ++ (wsL_law0_r12 ++ (wsL_law0_r13 ++ (wsL_law0_r14 ++ (wsL_law0_r15 ++ (wsL_law0_r16 ++ (wsL_law0_r17 ++ (wsL_law0_r18 ++ (wsL_law0_r19 ++ (wsL_law0_r20 ++ (wsL_law0_r21 ++ (wsL_law0_r22 ++ (wsL_law0_r23 ++ (wsL_law0_r24 ++ (wsL_law0_r25 ++ (wsL_law0_r26 ++ (wsL_law0_r27 ++ (wsL_law0_r28 ++ (wsL_law0_r29 ++ (wsL_law0_r30 ++ (wsL_law0_r31 ++ (wsL_law0_r32 ++ (wsL_law0_r33 ++ (wsL_law0_r34 ++ (wsL_law0_r35 ++ (wsL_law0_r36 ++ (wsL_law0_r37 ++ (wsL_law0_r38 ++ (wsL_law0_r39 ++ (wsL_law0_r40 ++ (wsL_law0_r41 ++ (wsL_law0_r42 ++ (wsL_law0_r43 ++ (wsL_law0_r44 ++ (wsL_law0_r45 ++ (wsL_law0_r46 ++ (wsL_law0_r47 ++ (wsL_law0_r48 ++ (wsL_law0_r49 ++ (wsL_law0_r50 ++ (wsL_law0_r51 ++ (wsL_law0_r52 ++ (wsL_law0_r53 ++ (wsL_law0_r54 ++ (wsL_law0_r55 ++ wsL_law0_r56)))))))))))))))))))))))))))))))))))))))))))))))))))))))), w ∈ lw_tbl := List.forall_mem_append.mpr ⟨lwR1, List.forall_mem_append.mpr ⟨lwR2, List.forall_mem_append.mpr ⟨lwR3, List.forall_mem_append.mpr ⟨lwR4, List.forall_mem_append.mpr ⟨lwR5, List.forall_mem_append.mpr ⟨lwR6, List.forall_mem_append.mpr ⟨lwR7, List.forall_mem_append.mpr ⟨lwR8, List.forall_mem_append.mpr ⟨lwR9, List.forall_mem_append.mpr ⟨lwR10, List.forall_mem_append.mpr ⟨lwR11, List.forall_mem_append.mpr ⟨lwR12, List.forall_mem_append.mpr ⟨lwR13, List.forall_mem_append.mpr ⟨lwR14, List.forall_mem_append.mpr ⟨lwR15, List.forall_mem_append.mpr ⟨lwR16, List.forall_mem_append.mpr ⟨lwR17, List.forall_mem_append.mpr ⟨lwR18, List.forall_mem_append.mpr ⟨lwR19, List.forall_mem_append.mpr ⟨lwR20, List.forall_mem_append.mpr ⟨lwR21, List.forall_mem_append.mpr ⟨lwR22, List.forall_mem_append.mpr ⟨lwR23, List.forall_mem_append.mpr ⟨lwR24, List.forall_mem_append.mpr ⟨lwR25, List.forall_mem_append.mpr ⟨lwR26, List.forall_mem_append.mpr ⟨lwR27, List.forall_mem_append.mpr ⟨lwR28, List.forall_mem_append.mpr ⟨lwR29, List.forall_mem_append.mpr ⟨lwR30, List.forall_mem_append.mpr ⟨lwR31, List.forall_mem_append.mpr ⟨lwR32, List.forall_mem_append.mpr ⟨lwR33, List.forall_mem_append.mpr ⟨lwR34, List.forall_mem_append.mpr ⟨lwR35, List.forall_mem_append.mpr ⟨lwR36, List.forall_mem_append.mpr ⟨lwR37, List.forall_mem_append.mpr ⟨lwR38, List.forall_mem_append.mpr ⟨lwR39, List.forall_mem_append.mpr ⟨lwR40, List.forall_mem_append.mpr ⟨lwR41, List.forall_mem_append.mpr ⟨lwR42, List.forall_mem_append.mpr ⟨lwR43, List.forall_mem_append.mpr ⟨lwR44, List.forall_mem_append.mpr ⟨lwR45, List.forall_mem_append.mpr ⟨lwR46, List.forall_mem_append.mpr ⟨lwR47, List.forall_mem_append.mpr ⟨lwR48, List.forall_mem_append.mpr ⟨lwR49, List.forall_mem_append.mpr ⟨lwR50, List.forall_mem_append.mpr ⟨lwR51, List.forall_mem_append.mpr ⟨lwR52, List.forall_mem_append.mpr ⟨lwR53, List.forall_mem_append.mpr ⟨lwR54, List.forall_mem_append.mpr ⟨lwR55, lwR56⟩⟩⟩⟩⟩⟩⟩⟩⟩⟩⟩⟩⟩⟩⟩⟩⟩⟩⟩⟩⟩⟩⟩⟩⟩⟩⟩⟩⟩⟩⟩⟩⟩⟩⟩⟩⟩⟩⟩⟩⟩⟩⟩⟩⟩⟩⟩⟩⟩⟩⟩⟩⟩⟩⟩
theorem wsL_law_in0 : ∀ w ∈ wsL_law0, w ∈ lw_tbl := List.forall_mem_append.mpr ⟨List.forall_mem_append.mpr ⟨List.forall_mem_append.mpr ⟨List.forall_mem_append.mpr ⟨List.forall_mem_append.mpr ⟨List.forall_mem_append.mpr ⟨List.forall_mem_append.mpr ⟨List.forall_mem_append.mpr ⟨List.forall_mem_append.mpr ⟨List.forall_mem_append.mpr ⟨List.forall_mem_append.mpr ⟨List.forall_mem_append.mpr ⟨List.forall_mem_append.mpr ⟨List.forall_mem_append.mpr ⟨lwRR, lw_wsX110⟩, lw_wsX120⟩, lw_wsX80⟩, lw_wsX90⟩, lw_wsX20⟩, lw_wsX60⟩, lw_wsX30⟩, lw_wsX100⟩, lw_wsX00⟩, lw_wsX10⟩, lw_wsX70⟩, lw_wsX40⟩, lw_wsX50⟩, fun _ h => absurd h List.not_mem_nil⟩
theorem wsL_law_x0 : ∀ w ∈ (vx_at0 RX11 122 "java/util/NoSuchElementException" ["java/lang/RuntimeException", "java/lang/Exception"]).filter goodWord, w ∈ lw_tbl := by decide +kernel
