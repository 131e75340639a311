-- @needs 18_words
theorem in_r {big ws : List Cond} (ps : List Nat) (hp : ws = ps.filterMap (fun i => big[i]?)) : ∀ w ∈ ws, w ∈ big := fun w hw => by
  rw [hp] at hw
  obtain ⟨i, -, hi⟩ := List.mem_filterMap.mp hw
  exact List.mem_of_getElem? hi
theorem in_c {big ws : List Cond} (a : Nat) (h1 : ∀ w ∈ (ws.drop a).take 25, w ∈ big) (h2 : ∀ w ∈ ws.drop (a + 25), w ∈ big) : ∀ w ∈ ws.drop a, w ∈ big := fun w hw => by
  rw [← List.take_append_drop 25 (ws.drop a)] at hw
  rcases List.mem_append.mp hw with h | h
  · exact h1 w h
  · rw [List.drop_drop] at h
    exact h2 w h
set_option maxRecDepth 1000000
theorem sl0 : (wsL_law.drop 0).take 25 = [86, 87, 69, 902, 903, 77, 1059, 88, 89, 90, 91, 92, 93, 94, 95, 70, 276, 155, 156, 73, 277, 278, 279, 281, 282].filterMap (fun i => lw_tbl[i]?) := by decide +kernel
theorem sl1 : (wsL_law.drop 25).take 25 = [246, 283, 248, 76, 96, 97, 98, 99, 128, 133, 134, 100, 101, 71, 138, 124, 139, 103, 104, 105, 106, 125, 126, 72, 127].filterMap (fun i => lw_tbl[i]?) := by decide +kernel
theorem sl2 : (wsL_law.drop 50).take 25 = [157, 158, 159, 160, 161, 234, 163, 74, 165, 166, 167, 168, 169, 75, 192, 204, 171, 172, 173, 250, 251, 252, 255, 253, 257].filterMap (fun i => lw_tbl[i]?) := by decide +kernel
theorem sl3 : (wsL_law.drop 75).take 25 = [263, 904, 905, 906, 907, 908, 910, 911, 914, 917, 918, 919, 920, 921, 922, 923, 924, 925, 926, 928, 931, 932, 933, 934, 936].filterMap (fun i => lw_tbl[i]?) := by decide +kernel
theorem sl4 : (wsL_law.drop 100).take 25 = [939, 940, 941, 942, 947, 950, 951, 952, 953, 954, 955, 956, 957, 927, 301, 302, 303, 304, 305, 306, 307, 312, 313, 314, 315].filterMap (fun i => lw_tbl[i]?) := by decide +kernel
theorem sl5 : (wsL_law.drop 125).take 25 = [235, 199, 316, 317, 318, 319, 132, 137, 320, 321, 322, 323, 1084, 1085, 1086, 1087, 1088, 909, 912, 1089, 1090, 1091, 1092, 1093, 1094].filterMap (fun i => lw_tbl[i]?) := by decide +kernel
theorem sl6 : (wsL_law.drop 150).take 25 = [1095, 1096, 1097, 1098, 1100, 21, 1101, 916, 324, 325, 326, 327, 264, 262, 328, 330, 0, 331, 332, 333, 334, 335, 259, 336, 337].filterMap (fun i => lw_tbl[i]?) := by decide +kernel
theorem sl7 : (wsL_law.drop 175).take 25 = [338, 339, 340, 341, 342, 343, 344, 345, 346, 347, 348, 349, 350, 351, 1102, 1103, 1104, 1105, 1106, 1108, 22, 1109, 1110, 1112, 23].filterMap (fun i => lw_tbl[i]?) := by decide +kernel
theorem sl8 : (wsL_law.drop 200).take 25 = [1113, 1114, 1115, 1117, 24, 1118, 929, 1119, 1121, 25, 1122, 930, 1123, 1124, 352, 353, 354, 355, 356, 357, 358, 359, 360, 361, 362].filterMap (fun i => lw_tbl[i]?) := by decide +kernel
theorem sl9 : (wsL_law.drop 225).take 25 = [363, 364, 365, 78, 366, 367, 368, 369, 108, 370, 372, 371, 79, 1125, 1126, 1127, 1128, 913, 937, 373, 374, 375, 376, 377, 378].filterMap (fun i => lw_tbl[i]?) := by decide +kernel
theorem sl10 : (wsL_law.drop 250).take 25 = [379, 380, 381, 409, 410, 382, 383, 384, 385, 110, 111, 112, 386, 388, 1, 389, 390, 392, 2, 398, 400, 4, 401, 397, 402].filterMap (fun i => lw_tbl[i]?) := by decide +kernel
theorem sl11 : (wsL_law.drop 275).take 25 = [404, 5, 405, 393, 394, 396, 3, 406, 407, 408, 1129, 1130, 1131, 1132, 1133, 1154, 1134, 1136, 26, 1137, 935, 1138, 1140, 27, 1141].filterMap (fun i => lw_tbl[i]?) := by decide +kernel
theorem sl12 : (wsL_law.drop 300).take 25 = [1142, 1144, 28, 1145, 1146, 1148, 29, 1149, 1150, 1152, 30, 1153, 411, 412, 413, 414, 238, 415, 416, 417, 418, 419, 420, 421, 422].filterMap (fun i => lw_tbl[i]?) := by decide +kernel
theorem sl13 : (wsL_law.drop 325).take 25 = [423, 424, 425, 193, 184, 426, 427, 428, 429, 430, 174, 178, 181, 431, 432, 433, 434, 195, 196, 435, 436, 437, 438, 197, 198].filterMap (fun i => lw_tbl[i]?) := by decide +kernel
theorem sl14 : (wsL_law.drop 350).take 25 = [201, 203, 205, 1155, 1156, 1157, 1158, 1164, 915, 1159, 1160, 1161, 1162, 1163, 1165, 1167, 31, 1168, 439, 440, 441, 442, 443, 444, 445].filterMap (fun i => lw_tbl[i]?) := by decide +kernel
theorem sl15 : (wsL_law.drop 375).take 25 = [446, 447, 448, 449, 450, 176, 180, 1169, 1170, 1171, 1172, 1173, 1175, 32, 1176, 451, 452, 453, 454, 208, 455, 456, 457, 458, 209].filterMap (fun i => lw_tbl[i]?) := by decide +kernel
theorem sl16 : (wsL_law.drop 400).take 25 = [459, 460, 461, 462, 463, 464, 465, 1177, 1178, 1179, 1180, 1181, 1183, 33, 1184, 1185, 1186, 1187, 1188, 1190, 34, 1191, 466, 467, 468].filterMap (fun i => lw_tbl[i]?) := by decide +kernel
theorem sl17 : (wsL_law.drop 425).take 25 = [469, 236, 470, 471, 472, 473, 237, 474, 475, 476, 477, 478, 479, 480, 481, 482, 483, 484, 485, 486, 487, 489, 6, 490, 210].filterMap (fun i => lw_tbl[i]?) := by decide +kernel
theorem sl18 : (wsL_law.drop 450).take 25 = [136, 491, 492, 493, 494, 495, 496, 129, 498, 499, 207, 497, 500, 501, 502, 503, 504, 505, 506, 507, 508, 509, 510, 511, 512].filterMap (fun i => lw_tbl[i]?) := by decide +kernel
theorem sl19 : (wsL_law.drop 475).take 25 = [513, 515, 7, 516, 177, 130, 517, 518, 519, 520, 521, 522, 523, 524, 525, 527, 8, 528, 202, 529, 530, 531, 532, 533, 534].filterMap (fun i => lw_tbl[i]?) := by decide +kernel
theorem sl20 : (wsL_law.drop 500).take 25 = [535, 536, 537, 538, 539, 540, 541, 542, 543, 544, 545, 546, 547, 548, 1192, 1193, 1194, 1195, 1196, 1197, 1199, 35, 1200, 1201, 1203].filterMap (fun i => lw_tbl[i]?) := by decide +kernel
theorem sl21 : (wsL_law.drop 525).take 25 = [36, 1204, 938, 1205, 1207, 37, 1208, 1209, 1211, 38, 1212, 1213, 1215, 39, 1216, 1217, 1219, 40, 1220, 1221, 1223, 41, 1224, 1225, 1226].filterMap (fun i => lw_tbl[i]?) := by decide +kernel
theorem sl22 : (wsL_law.drop 550).take 25 = [1227, 1228, 1230, 42, 1231, 1232, 1234, 43, 1235, 1236, 1238, 44, 1239, 1240, 1242, 45, 1243, 1244, 1246, 46, 1247, 1248, 1250, 47, 1251].filterMap (fun i => lw_tbl[i]?) := by decide +kernel
theorem sl23 : (wsL_law.drop 575).take 25 = [1252, 1254, 48, 1255, 1256, 1258, 49, 1259, 1260, 1262, 50, 1263, 1264, 1266, 51, 1267, 549, 550, 551, 552, 135, 553, 554, 1268, 1269].filterMap (fun i => lw_tbl[i]?) := by decide +kernel
theorem sl24 : (wsL_law.drop 600).take 25 = [1270, 1271, 555, 556, 557, 558, 559, 560, 561, 562, 563, 1272, 1273, 1274, 1275, 564, 565, 566, 567, 568, 569, 570, 571, 572, 573].filterMap (fun i => lw_tbl[i]?) := by decide +kernel
theorem sl25 : (wsL_law.drop 625).take 25 = [574, 575, 576, 577, 578, 579, 183, 580, 581, 582, 583, 1276, 1277, 1278, 1279, 1280, 1282, 52, 1283, 1284, 1286, 53, 1287, 1288, 1290].filterMap (fun i => lw_tbl[i]?) := by decide +kernel
theorem sl26 : (wsL_law.drop 650).take 25 = [54, 1291, 584, 585, 586, 587, 588, 590, 9, 591, 592, 593, 594, 595, 596, 597, 598, 599, 600, 601, 1292, 1293, 1294, 1295, 1296].filterMap (fun i => lw_tbl[i]?) := by decide +kernel
theorem sl27 : (wsL_law.drop 675).take 25 = [1298, 55, 1299, 1068, 1070, 18, 1071, 946, 945, 944, 1072, 1074, 19, 1075, 1076, 1078, 20, 1079, 1300, 1302, 56, 1303, 1304, 1306, 57].filterMap (fun i => lw_tbl[i]?) := by decide +kernel
theorem sl28 : (wsL_law.drop 700).take 25 = [1307, 602, 603, 604, 605, 606, 608, 10, 609, 610, 611, 612, 613, 1308, 1309, 1310, 1311, 1312, 1313, 1315, 58, 1316, 948, 1317, 1319].filterMap (fun i => lw_tbl[i]?) := by decide +kernel
theorem sl29 : (wsL_law.drop 725).take 25 = [59, 1320, 1321, 1323, 60, 1324, 1325, 1327, 61, 1328, 614, 615, 616, 617, 618, 620, 11, 621, 622, 1329, 1330, 1331, 1332, 949, 1333].filterMap (fun i => lw_tbl[i]?) := by decide +kernel
theorem sl30 : (wsL_law.drop 750).take 25 = [1335, 62, 1336, 623, 624, 625, 626, 1337, 1338, 1339, 1340, 1341, 1343, 63, 1344, 627, 628, 629, 630, 631, 632, 633, 634, 635, 636].filterMap (fun i => lw_tbl[i]?) := by decide +kernel
theorem sl31 : (wsL_law.drop 775).take 25 = [637, 639, 12, 640, 131, 641, 642, 643, 644, 645, 1345, 1346, 1347, 1348, 1353, 1349, 1350, 1351, 1352, 1354, 1356, 64, 1357, 1358, 1360].filterMap (fun i => lw_tbl[i]?) := by decide +kernel
theorem sl32 : (wsL_law.drop 800).take 25 = [65, 1361, 646, 647, 648, 649, 650, 652, 13, 653, 654, 655, 78, 656, 1362, 1363, 1364, 1365, 1366, 1367, 657, 658, 659, 660, 661].filterMap (fun i => lw_tbl[i]?) := by decide +kernel
theorem sl33 : (wsL_law.drop 825).take 25 = [662, 663, 1368, 1369, 1370, 1371, 664, 665, 666, 667, 1372, 1373, 1374, 1375, 1376, 668, 669, 670, 671, 672, 673, 674, 675, 676, 261].filterMap (fun i => lw_tbl[i]?) := by decide +kernel
theorem sl34 : (wsL_law.drop 850).take 25 = [677, 678, 80, 679, 1377, 1378, 1379, 1380, 680, 681, 682, 683, 684, 686, 14, 687, 200, 688, 689, 690, 691, 696, 692, 693, 694].filterMap (fun i => lw_tbl[i]?) := by decide +kernel
theorem sl35 : (wsL_law.drop 875).take 25 = [695, 1381, 1382, 1383, 1384, 1385, 1387, 66, 1388, 1389, 1390, 1391, 697, 698, 699, 700, 701, 702, 703, 704, 107, 109, 705, 706, 708].filterMap (fun i => lw_tbl[i]?) := by decide +kernel
theorem sl36 : (wsL_law.drop 900).take 25 = [15, 709, 710, 711, 712, 713, 714, 1392, 1393, 1394, 1395, 715, 716, 717, 718, 1396, 1397, 1398, 1399, 719, 720, 721, 722, 280, 1064].filterMap (fun i => lw_tbl[i]?) := by decide +kernel
theorem sl37 : (wsL_law.drop 925).take 25 = [1065, 1066, 1067, 943, 723, 724, 725, 726, 1080, 1081, 1082, 1083, 727, 728, 729, 730, 731, 732, 733, 734, 735, 206, 736, 737, 738].filterMap (fun i => lw_tbl[i]?) := by decide +kernel
theorem sl38 : (wsL_law.drop 950).take 25 = [739, 1400, 1401, 1402, 1403, 740, 741, 742, 743, 256, 194, 744, 745, 746, 747, 175, 179, 182, 748, 1404, 1405, 1406, 1407, 749, 750].filterMap (fun i => lw_tbl[i]?) := by decide +kernel
theorem sl39 : (wsL_law.drop 975).take 25 = [751, 752, 753, 754, 755, 756, 757, 1408, 1409, 1410, 1411, 1412, 758, 759, 760, 761, 762, 763, 764, 765, 766, 1413, 1414, 1415, 1416].filterMap (fun i => lw_tbl[i]?) := by decide +kernel
theorem sl40 : (wsL_law.drop 1000).take 25 = [1417, 1418, 1419, 874, 875, 68, 876, 877, 878, 879, 880, 881, 882, 883, 84, 793, 85, 1420, 1421, 1422, 1423, 1060, 1061, 1062, 1063].filterMap (fun i => lw_tbl[i]?) := by decide +kernel
theorem sl41 : (wsL_law.drop 1025).take 25 = [767, 768, 769, 770, 260, 775, 771, 772, 773, 774, 1424, 1425, 1426, 1427, 776, 777, 778, 779, 784, 258, 780, 781, 782, 783, 785].filterMap (fun i => lw_tbl[i]?) := by decide +kernel
theorem sl42 : (wsL_law.drop 1050).take 25 = [786, 787, 788, 1428, 1429, 1430, 1431, 1432, 1434, 67, 1435, 1436, 1437, 1438, 789, 790, 791, 792, 794, 795, 796, 797, 802, 798, 800].filterMap (fun i => lw_tbl[i]?) := by decide +kernel
theorem sl43 : (wsL_law.drop 1075).take 25 = [16, 801, 869, 870, 871, 872, 873, 1439, 1440, 1441, 1442, 284, 286, 288, 290, 292, 294, 296, 298, 958, 960, 962, 964, 966, 968].filterMap (fun i => lw_tbl[i]?) := by decide +kernel
theorem sl44 : (wsL_law.drop 1100).take 25 = [970, 972, 974, 976, 978, 980, 982, 984, 986, 988, 990, 992, 994, 996, 998, 1000, 1002, 1004, 1006, 1008, 1010, 1012, 1014, 1016, 1018].filterMap (fun i => lw_tbl[i]?) := by decide +kernel
theorem sl45 : (wsL_law.drop 1125).take 25 = [1020, 1022, 1024, 1026, 1028, 1030, 1032, 1034, 1036, 1038, 1040, 1042, 1044, 1046, 1048, 1050, 1052, 1054, 1056, 140, 142, 144, 146, 148, 150].filterMap (fun i => lw_tbl[i]?) := by decide +kernel
theorem sl46 : (wsL_law.drop 1150).take 25 = [152, 239, 241, 243, 265, 267, 269, 271, 273, 113, 115, 117, 119, 121, 211, 213, 215, 217, 219, 221, 223, 225, 227, 229, 231].filterMap (fun i => lw_tbl[i]?) := by decide +kernel
theorem sl47 : (wsL_law.drop 1175).take 25 = [185, 187, 189, 81, 824, 833, 836, 839, 841, 825, 826, 92, 93, 827, 832, 837, 857, 814, 858, 816, 859, 818, 828, 830, 820].filterMap (fun i => lw_tbl[i]?) := by decide +kernel
theorem sl48 : (wsL_law.drop 1200).take 25 = [853, 854, 856, 820, 894, 895, 896, 847, 847, 848, 849, 850, 850, 851, 852, 853, 893, 884, 886, 835, 887, 888, 889, 890, 823].filterMap (fun i => lw_tbl[i]?) := by decide +kernel
theorem sl49 : (wsL_law.drop 1225).take 25 = [822, 891, 81, 824, 833, 836, 839, 841, 825, 826, 92, 93, 827, 832, 837, 857, 814, 858, 816, 859, 818, 828, 830, 820, 853].filterMap (fun i => lw_tbl[i]?) := by decide +kernel
theorem sl50 : (wsL_law.drop 1250).take 25 = [854, 856, 820, 844, 845, 846, 847, 847, 848, 849, 850, 850, 851, 852, 853, 900, 803, 811, 812, 813, 815, 817, 819, 823, 822].filterMap (fun i => lw_tbl[i]?) := by decide +kernel
theorem sl51 : (wsL_law.drop 1275).take 25 = [821, 81, 824, 833, 836, 839, 841, 825, 826, 92, 93, 827, 832, 837, 857, 814, 858, 816, 859, 818, 828, 830, 820, 853, 854].filterMap (fun i => lw_tbl[i]?) := by decide +kernel
theorem sl52 : (wsL_law.drop 1300).take 25 = [856, 820, 844, 845, 846, 847, 847, 848, 849, 850, 850, 851, 852, 853, 843, 803, 811, 812, 813, 815, 817, 819, 823, 822, 821].filterMap (fun i => lw_tbl[i]?) := by decide +kernel
theorem sl_end : wsL_law.drop 1325 = [] := by decide +kernel
theorem wsL_in : ∀ w ∈ wsL_law, w ∈ lw_tbl := by
  show ∀ w ∈ wsL_law.drop 0, w ∈ lw_tbl
  refine in_c 0 (in_r _ sl0) ?_
  refine in_c 25 (in_r _ sl1) ?_
  refine in_c 50 (in_r _ sl2) ?_
  refine in_c 75 (in_r _ sl3) ?_
  refine in_c 100 (in_r _ sl4) ?_
  refine in_c 125 (in_r _ sl5) ?_
  refine in_c 150 (in_r _ sl6) ?_
  refine in_c 175 (in_r _ sl7) ?_
  refine in_c 200 (in_r _ sl8) ?_
  refine in_c 225 (in_r _ sl9) ?_
  refine in_c 250 (in_r _ sl10) ?_
  refine in_c 275 (in_r _ sl11) ?_
  refine in_c 300 (in_r _ sl12) ?_
  refine in_c 325 (in_r _ sl13) ?_
  refine in_c 350 (in_r _ sl14) ?_
  refine in_c 375 (in_r _ sl15) ?_
  refine in_c 400 (in_r _ sl16) ?_
  refine in_c 425 (in_r _ sl17) ?_
  refine in_c 450 (in_r _ sl18) ?_
  refine in_c 475 (in_r _ sl19) ?_
  refine in_c 500 (in_r _ sl20) ?_
  refine in_c 525 (in_r _ sl21) ?_
  refine in_c 550 (in_r _ sl22) ?_
  refine in_c 575 (in_r _ sl23) ?_
  refine in_c 600 (in_r _ sl24) ?_
  refine in_c 625 (in_r _ sl25) ?_
  refine in_c 650 (in_r _ sl26) ?_
  refine in_c 675 (in_r _ sl27) ?_
  refine in_c 700 (in_r _ sl28) ?_
  refine in_c 725 (in_r _ sl29) ?_
  refine in_c 750 (in_r _ sl30) ?_
  refine in_c 775 (in_r _ sl31) ?_
  refine in_c 800 (in_r _ sl32) ?_
  refine in_c 825 (in_r _ sl33) ?_
  refine in_c 850 (in_r _ sl34) ?_
  refine in_c 875 (in_r _ sl35) ?_
  refine in_c 900 (in_r _ sl36) ?_
  refine in_c 925 (in_r _ sl37) ?_
  refine in_c 950 (in_r _ sl38) ?_
  refine in_c 975 (in_r _ sl39) ?_
  refine in_c 1000 (in_r _ sl40) ?_
  refine in_c 1025 (in_r _ sl41) ?_
  refine in_c 1050 (in_r _ sl42) ?_
  refine in_c 1075 (in_r _ sl43) ?_
  refine in_c 1100 (in_r _ sl44) ?_
  refine in_c 1125 (in_r _ sl45) ?_
  refine in_c 1150 (in_r _ sl46) ?_
  refine in_c 1175 (in_r _ sl47) ?_
  refine in_c 1200 (in_r _ sl48) ?_
  refine in_c 1225 (in_r _ sl49) ?_
  refine in_c 1250 (in_r _ sl50) ?_
  refine in_c 1275 (in_r _ sl51) ?_
  refine in_c 1300 (in_r _ sl52) ?_
  intro w hw
  rw [show 1300 + 25 = 1325 from rfl, sl_end] at hw
  cases hw
