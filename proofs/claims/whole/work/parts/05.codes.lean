set_option maxRecDepth 100000 in
theorem pj_cw_0 : (List.range' 0 10).map (fun y => Cond.code (pj_n y) (pby y) (pmL y) (prt y)) = [144, 152, 169, 173, 182, 194, 243, 249, 365, 378].filterMap (fun i => lw_tbl[i]?) := rfl
set_option maxRecDepth 100000 in
theorem pj_cw_1 : (List.range' 10 10).map (fun y => Cond.code (pj_n y) (pby y) (pmL y) (prt y)) = [456, 490, 513, 532, 555, 559, 563, 567, 571, 575].filterMap (fun i => lw_tbl[i]?) := rfl
set_option maxRecDepth 100000 in
theorem pj_cw_2 : (List.range' 20 10).map (fun y => Cond.code (pj_n y) (pby y) (pmL y) (prt y)) = [622, 626, 630, 634, 638, 645, 651, 655, 658, 661].filterMap (fun i => lw_tbl[i]?) := rfl
set_option maxRecDepth 100000 in
theorem pj_cw_3 : (List.range' 30 10).map (fun y => Cond.code (pj_n y) (pby y) (pmL y) (prt y)) = [665, 668, 755, 759, 762, 788, 792, 796, 800, 804].filterMap (fun i => lw_tbl[i]?) := rfl
set_option maxRecDepth 100000 in
theorem pj_cw_4 : (List.range' 40 10).map (fun y => Cond.code (pj_n y) (pby y) (pmL y) (prt y)) = [807, 810, 814, 818, 822, 826, 830, 834, 838, 843].filterMap (fun i => lw_tbl[i]?) := rfl
set_option maxRecDepth 100000 in
theorem pj_cw_5 : (List.range' 50 10).map (fun y => Cond.code (pj_n y) (pby y) (pmL y) (prt y)) = [847, 851, 855, 859, 863, 867, 871, 875, 879, 883].filterMap (fun i => lw_tbl[i]?) := rfl
set_option maxRecDepth 100000 in
theorem pj_cw_6 : (List.range' 60 10).map (fun y => Cond.code (pj_n y) (pby y) (pmL y) (prt y)) = [887, 891, 897, 901, 906, 910, 914, 918, 922, 926].filterMap (fun i => lw_tbl[i]?) := rfl
set_option maxRecDepth 100000 in
theorem pj_cw_7 : (List.range' 70 10).map (fun y => Cond.code (pj_n y) (pby y) (pmL y) (prt y)) = [930, 934, 938, 943, 949, 953, 957, 961, 966, 970].filterMap (fun i => lw_tbl[i]?) := rfl
set_option maxRecDepth 100000 in
theorem pj_cw_8 : (List.range' 80 10).map (fun y => Cond.code (pj_n y) (pby y) (pmL y) (prt y)) = [974, 979, 983, 989, 995, 1000, 1004, 1008, 1013, 1018].filterMap (fun i => lw_tbl[i]?) := rfl
set_option maxRecDepth 100000 in
theorem pj_cw_9 : (List.range' 90 10).map (fun y => Cond.code (pj_n y) (pby y) (pmL y) (prt y)) = [1022, 1026, 1035, 1038, 1043, 1048, 1052, 1056, 1060, 1065].filterMap (fun i => lw_tbl[i]?) := rfl
set_option maxRecDepth 100000 in
theorem pj_cw_10 : (List.range' 100 10).map (fun y => Cond.code (pj_n y) (pby y) (pmL y) (prt y)) = [1069, 1073, 1078, 1082, 1086, 1090, 1094, 1098, 1102, 1108].filterMap (fun i => lw_tbl[i]?) := rfl
set_option maxRecDepth 100000 in
theorem pj_cw_11 : (List.range' 110 10).map (fun y => Cond.code (pj_n y) (pby y) (pmL y) (prt y)) = [1112, 1116, 1121, 1128, 1133, 1137, 1141, 1147, 1151, 1155].filterMap (fun i => lw_tbl[i]?) := rfl
set_option maxRecDepth 100000 in
theorem pj_cw_12 : (List.range' 120 10).map (fun y => Cond.code (pj_n y) (pby y) (pmL y) (prt y)) = [1159, 1163, 1167, 1172, 1176, 1180, 1184, 1188, 1192, 1197].filterMap (fun i => lw_tbl[i]?) := rfl
set_option maxRecDepth 100000 in
theorem pj_cw_13 : (List.range' 130 10).map (fun y => Cond.code (pj_n y) (pby y) (pmL y) (prt y)) = [1201, 1205, 1209, 1213, 1220, 1224, 1228, 1232, 1235, 1242].filterMap (fun i => lw_tbl[i]?) := rfl
set_option maxRecDepth 100000 in
theorem pj_cw_14 : (List.range' 140 10).map (fun y => Cond.code (pj_n y) (pby y) (pmL y) (prt y)) = [1246, 1250, 1255, 1259, 1263, 1275, 1280, 1285, 1288, 1292].filterMap (fun i => lw_tbl[i]?) := rfl
set_option maxRecDepth 100000 in
theorem pj_cw_15 : (List.range' 150 10).map (fun y => Cond.code (pj_n y) (pby y) (pmL y) (prt y)) = [1296, 1301, 1305, 1310, 1314, 1318, 1325, 1332, 1336, 1341].filterMap (fun i => lw_tbl[i]?) := rfl
set_option maxRecDepth 100000 in
theorem pj_cw_16 : (List.range' 160 10).map (fun y => Cond.code (pj_n y) (pby y) (pmL y) (prt y)) = [1345, 1349, 1353, 1357, 1363, 1367, 1371, 1376, 1381, 1385].filterMap (fun i => lw_tbl[i]?) := rfl
set_option maxRecDepth 100000 in
theorem pj_cw_17 : (List.range' 170 10).map (fun y => Cond.code (pj_n y) (pby y) (pmL y) (prt y)) = [1389, 1394, 1399, 1403, 1407, 1414, 1418, 1422, 1426, 1430].filterMap (fun i => lw_tbl[i]?) := rfl
set_option maxRecDepth 100000 in
theorem pj_cw_18 : (List.range' 180 10).map (fun y => Cond.code (pj_n y) (pby y) (pmL y) (prt y)) = [1434, 1442, 1510, 1517, 1522, 1741, 1745, 1749, 1753, 1757].filterMap (fun i => lw_tbl[i]?) := rfl
set_option maxRecDepth 100000 in
theorem pj_cw_19 : (List.range' 190 10).map (fun y => Cond.code (pj_n y) (pby y) (pmL y) (prt y)) = [1761, 1765, 1769, 1773, 1777, 1780, 1784, 1788, 1792, 1796].filterMap (fun i => lw_tbl[i]?) := rfl
set_option maxRecDepth 100000 in
theorem pj_cw_20 : (List.range' 200 10).map (fun y => Cond.code (pj_n y) (pby y) (pmL y) (prt y)) = [1800, 1804, 1807, 1810, 1813, 1817, 1823, 1827, 1830, 1833].filterMap (fun i => lw_tbl[i]?) := rfl
set_option maxRecDepth 100000 in
theorem pj_cw_21 : (List.range' 210 10).map (fun y => Cond.code (pj_n y) (pby y) (pmL y) (prt y)) = [1837, 1841, 1844, 1848, 1852, 1856, 1860, 1864, 1868, 1872].filterMap (fun i => lw_tbl[i]?) := rfl
set_option maxRecDepth 100000 in
theorem pj_cw_22 : (List.range' 220 10).map (fun y => Cond.code (pj_n y) (pby y) (pmL y) (prt y)) = [1876, 1879, 1883, 1886, 1890, 1894, 1898, 1901, 1905, 1909].filterMap (fun i => lw_tbl[i]?) := rfl
set_option maxRecDepth 100000 in
theorem pj_cw_23 : (List.range' 230 10).map (fun y => Cond.code (pj_n y) (pby y) (pmL y) (prt y)) = [1913, 1917, 1921, 1925, 1929, 1933, 1936, 1940, 1944, 1948].filterMap (fun i => lw_tbl[i]?) := rfl
set_option maxRecDepth 100000 in
theorem pj_cw_24 : (List.range' 240 10).map (fun y => Cond.code (pj_n y) (pby y) (pmL y) (prt y)) = [1952, 1956, 1960, 1964, 1968, 1972, 1976, 1980, 1984, 1988].filterMap (fun i => lw_tbl[i]?) := rfl
set_option maxRecDepth 100000 in
theorem pj_cw_25 : (List.range' 250 10).map (fun y => Cond.code (pj_n y) (pby y) (pmL y) (prt y)) = [1992, 1996, 2000, 2004, 2008, 2012, 2016, 2020, 2024, 2028].filterMap (fun i => lw_tbl[i]?) := rfl
set_option maxRecDepth 100000 in
theorem pj_cw_26 : (List.range' 260 10).map (fun y => Cond.code (pj_n y) (pby y) (pmL y) (prt y)) = [2032, 2036, 2040, 2044, 2048, 2052, 2056, 2060, 2064, 2068].filterMap (fun i => lw_tbl[i]?) := rfl
set_option maxRecDepth 100000 in
theorem pj_cw_27 : (List.range' 270 10).map (fun y => Cond.code (pj_n y) (pby y) (pmL y) (prt y)) = [2072, 2076, 2080, 2085, 2089, 2093, 2097, 2101, 2105, 2109].filterMap (fun i => lw_tbl[i]?) := rfl
set_option maxRecDepth 100000 in
theorem pj_cw_28 : (List.range' 280 10).map (fun y => Cond.code (pj_n y) (pby y) (pmL y) (prt y)) = [2113, 2117, 2121, 2125, 2129, 2133, 2137, 2141, 2145, 2149].filterMap (fun i => lw_tbl[i]?) := rfl
set_option maxRecDepth 100000 in
theorem pj_cw_29 : (List.range' 290 7).map (fun y => Cond.code (pj_n y) (pby y) (pmL y) (prt y)) = [2153, 2157, 2161, 2165, 2169, 2173, 2177].filterMap (fun i => lw_tbl[i]?) := rfl
