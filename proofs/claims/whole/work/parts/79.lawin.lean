-- @needs 18_words
theorem in_r {big ws : List Cond} (ps : List Nat) (hp : ws = ps.filterMap (fun i => big[i]?)) : ∀ w ∈ ws, w ∈ big := fun w hw => by
  rw [hp] at hw
  obtain ⟨i, -, hi⟩ := List.mem_filterMap.mp hw
  exact List.mem_of_getElem? hi
theorem in_c {big ws : List Cond} (a : Nat) (h1 : ∀ w ∈ (ws.drop a).take 25, w ∈ big) (h2 : ∀ w ∈ ws.drop (a + 25), w ∈ big) : ∀ w ∈ ws.drop a, w ∈ big := fun w hw => by
  rw [← List.take_append_drop 25 (ws.drop a)] at hw
  rcases List.mem_append.mp hw with h | h
  · exact h1 w h
  · rw [List.drop_drop] at h
    exact h2 w h
set_option maxRecDepth 1000000
theorem sl0 : (wsL_law.drop 0).take 25 = [84, 85, 67, 897, 898, 75, 1054, 86, 87, 88, 89, 90, 91, 92, 93, 68, 272, 151, 152, 71, 273, 274, 275, 277, 278].filterMap (fun i => lw_tbl[i]?) := by decide +kernel
theorem sl1 : (wsL_law.drop 25).take 25 = [242, 279, 244, 74, 94, 95, 96, 97, 124, 129, 130, 98, 99, 69, 134, 120, 135, 101, 102, 103, 104, 106, 108, 121, 122].filterMap (fun i => lw_tbl[i]?) := by decide +kernel
theorem sl2 : (wsL_law.drop 50).take 25 = [70, 123, 153, 154, 155, 156, 157, 230, 159, 72, 161, 162, 163, 164, 165, 73, 188, 200, 167, 168, 169, 246, 247, 248, 251].filterMap (fun i => lw_tbl[i]?) := by decide +kernel
theorem sl3 : (wsL_law.drop 75).take 25 = [249, 253, 259, 899, 900, 901, 902, 903, 905, 906, 909, 912, 913, 914, 915, 916, 917, 918, 919, 920, 921, 923, 926, 927, 928].filterMap (fun i => lw_tbl[i]?) := by decide +kernel
theorem sl4 : (wsL_law.drop 100).take 25 = [929, 931, 934, 935, 936, 937, 942, 945, 946, 947, 948, 949, 950, 951, 952, 922, 297, 298, 299, 300, 301, 302, 303, 308, 309].filterMap (fun i => lw_tbl[i]?) := by decide +kernel
theorem sl5 : (wsL_law.drop 125).take 25 = [310, 311, 231, 195, 312, 313, 314, 315, 128, 133, 316, 317, 318, 319, 1079, 1080, 1081, 1082, 1083, 904, 907, 1084, 1085, 1086, 1087].filterMap (fun i => lw_tbl[i]?) := by decide +kernel
theorem sl6 : (wsL_law.drop 150).take 25 = [1088, 1089, 1090, 1091, 1092, 1093, 1095, 19, 1096, 911, 320, 321, 322, 323, 260, 258, 324, 326, 0, 327, 328, 329, 330, 331, 255].filterMap (fun i => lw_tbl[i]?) := by decide +kernel
theorem sl7 : (wsL_law.drop 175).take 25 = [332, 333, 334, 335, 336, 337, 338, 339, 340, 341, 342, 343, 344, 345, 346, 347, 1097, 1098, 1099, 1100, 1101, 1103, 20, 1104, 1105].filterMap (fun i => lw_tbl[i]?) := by decide +kernel
theorem sl8 : (wsL_law.drop 200).take 25 = [1107, 21, 1108, 1109, 1110, 1112, 22, 1113, 924, 1114, 1116, 23, 1117, 925, 1118, 1119, 348, 349, 350, 351, 352, 353, 354, 355, 356].filterMap (fun i => lw_tbl[i]?) := by decide +kernel
theorem sl9 : (wsL_law.drop 225).take 25 = [357, 358, 359, 105, 107, 360, 362, 1, 363, 364, 366, 2, 367, 375, 376, 76, 377, 368, 370, 3, 371, 372, 373, 374, 1120].filterMap (fun i => lw_tbl[i]?) := by decide +kernel
theorem sl10 : (wsL_law.drop 250).take 25 = [1121, 1122, 1123, 908, 932, 378, 379, 380, 381, 382, 383, 384, 385, 386, 394, 395, 396, 397, 387, 388, 389, 390, 391, 392, 393].filterMap (fun i => lw_tbl[i]?) := by decide +kernel
theorem sl11 : (wsL_law.drop 275).take 25 = [1124, 1125, 1126, 1127, 1128, 1149, 1129, 1131, 24, 1132, 930, 1133, 1135, 25, 1136, 1137, 1139, 26, 1140, 1141, 1143, 27, 1144, 1145, 1147].filterMap (fun i => lw_tbl[i]?) := by decide +kernel
theorem sl12 : (wsL_law.drop 300).take 25 = [28, 1148, 398, 399, 400, 401, 234, 402, 403, 404, 405, 406, 407, 408, 409, 410, 411, 412, 189, 180, 413, 414, 415, 416, 417].filterMap (fun i => lw_tbl[i]?) := by decide +kernel
theorem sl13 : (wsL_law.drop 325).take 25 = [170, 174, 177, 418, 419, 420, 421, 191, 192, 422, 423, 424, 425, 193, 194, 197, 199, 201, 1150, 1151, 1152, 1153, 1159, 910, 1154].filterMap (fun i => lw_tbl[i]?) := by decide +kernel
theorem sl14 : (wsL_law.drop 350).take 25 = [1155, 1156, 1157, 1158, 1160, 1162, 29, 1163, 426, 427, 428, 429, 430, 431, 432, 433, 434, 435, 436, 437, 172, 176, 1164, 1165, 1166].filterMap (fun i => lw_tbl[i]?) := by decide +kernel
theorem sl15 : (wsL_law.drop 375).take 25 = [1167, 1168, 1170, 30, 1171, 438, 439, 440, 441, 204, 442, 443, 444, 445, 205, 446, 447, 448, 449, 450, 451, 452, 1172, 1173, 1174].filterMap (fun i => lw_tbl[i]?) := by decide +kernel
theorem sl16 : (wsL_law.drop 400).take 25 = [1175, 1176, 1178, 31, 1179, 1180, 1181, 1182, 1183, 1185, 32, 1186, 453, 454, 455, 456, 232, 457, 458, 459, 460, 233, 461, 462, 463].filterMap (fun i => lw_tbl[i]?) := by decide +kernel
theorem sl17 : (wsL_law.drop 425).take 25 = [464, 465, 466, 467, 468, 469, 470, 471, 472, 473, 474, 475, 477, 4, 478, 206, 132, 479, 480, 481, 482, 483, 125, 485, 486].filterMap (fun i => lw_tbl[i]?) := by decide +kernel
theorem sl18 : (wsL_law.drop 450).take 25 = [203, 484, 487, 488, 489, 490, 491, 492, 493, 494, 495, 496, 497, 498, 499, 500, 502, 5, 503, 173, 126, 504, 505, 506, 507].filterMap (fun i => lw_tbl[i]?) := by decide +kernel
theorem sl19 : (wsL_law.drop 475).take 25 = [508, 509, 510, 511, 512, 514, 6, 515, 198, 516, 517, 518, 519, 520, 521, 522, 523, 524, 525, 526, 527, 528, 529, 530, 531].filterMap (fun i => lw_tbl[i]?) := by decide +kernel
theorem sl20 : (wsL_law.drop 500).take 25 = [532, 533, 534, 535, 1187, 1188, 1189, 1190, 1191, 1192, 1194, 33, 1195, 1196, 1198, 34, 1199, 933, 1200, 1202, 35, 1203, 1204, 1206, 36].filterMap (fun i => lw_tbl[i]?) := by decide +kernel
theorem sl21 : (wsL_law.drop 525).take 25 = [1207, 1208, 1210, 37, 1211, 1212, 1214, 38, 1215, 1216, 1218, 39, 1219, 1220, 1221, 1222, 1223, 1225, 40, 1226, 1227, 1229, 41, 1230, 1231].filterMap (fun i => lw_tbl[i]?) := by decide +kernel
theorem sl22 : (wsL_law.drop 550).take 25 = [1233, 42, 1234, 1235, 1237, 43, 1238, 1239, 1241, 44, 1242, 1243, 1245, 45, 1246, 1247, 1249, 46, 1250, 1251, 1253, 47, 1254, 1255, 1257].filterMap (fun i => lw_tbl[i]?) := by decide +kernel
theorem sl23 : (wsL_law.drop 575).take 25 = [48, 1258, 1259, 1261, 49, 1262, 536, 537, 538, 539, 131, 540, 541, 1263, 1264, 1265, 1266, 542, 543, 544, 545, 546, 547, 548, 549].filterMap (fun i => lw_tbl[i]?) := by decide +kernel
theorem sl24 : (wsL_law.drop 600).take 25 = [550, 1267, 1268, 1269, 1270, 551, 552, 553, 554, 555, 556, 557, 558, 559, 560, 561, 562, 563, 564, 565, 566, 179, 567, 568, 569].filterMap (fun i => lw_tbl[i]?) := by decide +kernel
theorem sl25 : (wsL_law.drop 625).take 25 = [570, 1271, 1272, 1273, 1274, 1275, 1277, 50, 1278, 1279, 1281, 51, 1282, 1283, 1285, 52, 1286, 571, 572, 573, 574, 575, 577, 7, 578].filterMap (fun i => lw_tbl[i]?) := by decide +kernel
theorem sl26 : (wsL_law.drop 650).take 25 = [579, 580, 581, 582, 583, 584, 585, 586, 587, 588, 1287, 1288, 1289, 1290, 1291, 1293, 53, 1294, 1063, 1065, 16, 1066, 941, 940, 939].filterMap (fun i => lw_tbl[i]?) := by decide +kernel
theorem sl27 : (wsL_law.drop 675).take 25 = [1067, 1069, 17, 1070, 1071, 1073, 18, 1074, 1295, 1297, 54, 1298, 1299, 1301, 55, 1302, 589, 590, 591, 592, 593, 595, 8, 596, 597].filterMap (fun i => lw_tbl[i]?) := by decide +kernel
theorem sl28 : (wsL_law.drop 700).take 25 = [598, 599, 600, 1303, 1304, 1305, 1306, 1307, 1308, 1310, 56, 1311, 943, 1312, 1314, 57, 1315, 1316, 1318, 58, 1319, 1320, 1322, 59, 1323].filterMap (fun i => lw_tbl[i]?) := by decide +kernel
theorem sl29 : (wsL_law.drop 725).take 25 = [601, 602, 603, 604, 605, 607, 9, 608, 609, 1324, 1325, 1326, 1327, 944, 1328, 1330, 60, 1331, 610, 611, 612, 613, 1332, 1333, 1334].filterMap (fun i => lw_tbl[i]?) := by decide +kernel
theorem sl30 : (wsL_law.drop 750).take 25 = [1335, 1336, 1338, 61, 1339, 614, 615, 616, 617, 618, 619, 620, 621, 622, 623, 624, 626, 10, 627, 127, 628, 629, 630, 631, 632].filterMap (fun i => lw_tbl[i]?) := by decide +kernel
theorem sl31 : (wsL_law.drop 775).take 25 = [633, 1340, 1341, 1342, 1343, 1348, 1344, 1345, 1346, 1347, 1349, 1351, 62, 1352, 1353, 1355, 63, 1356, 634, 635, 636, 637, 638, 640, 11].filterMap (fun i => lw_tbl[i]?) := by decide +kernel
theorem sl32 : (wsL_law.drop 800).take 25 = [641, 642, 643, 76, 644, 1357, 1358, 1359, 1360, 1361, 1362, 645, 646, 647, 648, 649, 650, 651, 1363, 1364, 1365, 1366, 652, 653, 654].filterMap (fun i => lw_tbl[i]?) := by decide +kernel
theorem sl33 : (wsL_law.drop 825).take 25 = [655, 1367, 1368, 1369, 1370, 1371, 656, 657, 658, 659, 660, 661, 662, 663, 664, 257, 665, 666, 77, 667, 1372, 1373, 1374, 1375, 668].filterMap (fun i => lw_tbl[i]?) := by decide +kernel
theorem sl34 : (wsL_law.drop 850).take 25 = [669, 670, 671, 672, 674, 12, 675, 196, 676, 677, 678, 679, 684, 680, 681, 682, 683, 1376, 1377, 1378, 1379, 1380, 1382, 64, 1383].filterMap (fun i => lw_tbl[i]?) := by decide +kernel
theorem sl35 : (wsL_law.drop 875).take 25 = [1384, 1385, 1386, 685, 686, 687, 688, 689, 690, 691, 692, 693, 694, 695, 696, 697, 698, 700, 699, 78, 701, 703, 13, 704, 705].filterMap (fun i => lw_tbl[i]?) := by decide +kernel
theorem sl36 : (wsL_law.drop 900).take 25 = [706, 707, 708, 709, 1387, 1388, 1389, 1390, 710, 711, 712, 713, 1391, 1392, 1393, 1394, 714, 715, 716, 717, 276, 1059, 1060, 1061, 1062].filterMap (fun i => lw_tbl[i]?) := by decide +kernel
theorem sl37 : (wsL_law.drop 925).take 25 = [938, 718, 719, 720, 721, 1075, 1076, 1077, 1078, 722, 723, 724, 725, 726, 727, 728, 729, 730, 202, 731, 732, 733, 734, 1395, 1396].filterMap (fun i => lw_tbl[i]?) := by decide +kernel
theorem sl38 : (wsL_law.drop 950).take 25 = [1397, 1398, 735, 736, 737, 738, 252, 190, 739, 740, 741, 742, 171, 175, 178, 743, 1399, 1400, 1401, 1402, 744, 745, 746, 747, 748].filterMap (fun i => lw_tbl[i]?) := by decide +kernel
theorem sl39 : (wsL_law.drop 975).take 25 = [749, 750, 751, 752, 1403, 1404, 1405, 1406, 1407, 753, 754, 755, 756, 757, 758, 759, 760, 761, 1408, 1409, 1410, 1411, 1412, 1413, 1414].filterMap (fun i => lw_tbl[i]?) := by decide +kernel
theorem sl40 : (wsL_law.drop 1000).take 25 = [869, 870, 66, 871, 872, 873, 874, 875, 876, 877, 878, 82, 788, 83, 1415, 1416, 1417, 1418, 1055, 1056, 1057, 1058, 762, 763, 764].filterMap (fun i => lw_tbl[i]?) := by decide +kernel
theorem sl41 : (wsL_law.drop 1025).take 25 = [765, 256, 770, 766, 767, 768, 769, 1419, 1420, 1421, 1422, 771, 772, 773, 774, 779, 254, 775, 776, 777, 778, 780, 781, 782, 783].filterMap (fun i => lw_tbl[i]?) := by decide +kernel
theorem sl42 : (wsL_law.drop 1050).take 25 = [1423, 1424, 1425, 1426, 1427, 1429, 65, 1430, 1431, 1432, 1433, 784, 785, 786, 787, 789, 790, 791, 792, 797, 793, 795, 14, 796, 864].filterMap (fun i => lw_tbl[i]?) := by decide +kernel
theorem sl43 : (wsL_law.drop 1075).take 25 = [865, 866, 867, 868, 1434, 1435, 1436, 1437, 280, 282, 284, 286, 288, 290, 292, 294, 953, 955, 957, 959, 961, 963, 965, 967, 969].filterMap (fun i => lw_tbl[i]?) := by decide +kernel
theorem sl44 : (wsL_law.drop 1100).take 25 = [971, 973, 975, 977, 979, 981, 983, 985, 987, 989, 991, 993, 995, 997, 999, 1001, 1003, 1005, 1007, 1009, 1011, 1013, 1015, 1017, 1019].filterMap (fun i => lw_tbl[i]?) := by decide +kernel
theorem sl45 : (wsL_law.drop 1125).take 25 = [1021, 1023, 1025, 1027, 1029, 1031, 1033, 1035, 1037, 1039, 1041, 1043, 1045, 1047, 1049, 1051, 136, 138, 140, 142, 144, 146, 148, 235, 237].filterMap (fun i => lw_tbl[i]?) := by decide +kernel
theorem sl46 : (wsL_law.drop 1150).take 25 = [239, 261, 263, 265, 267, 269, 109, 111, 113, 115, 117, 207, 209, 211, 213, 215, 217, 219, 221, 223, 225, 227, 181, 183, 185].filterMap (fun i => lw_tbl[i]?) := by decide +kernel
theorem sl47 : (wsL_law.drop 1175).take 25 = [79, 819, 828, 831, 834, 836, 820, 821, 90, 91, 822, 827, 832, 852, 809, 853, 811, 854, 813, 823, 825, 815, 848, 849, 851].filterMap (fun i => lw_tbl[i]?) := by decide +kernel
theorem sl48 : (wsL_law.drop 1200).take 25 = [815, 889, 890, 891, 842, 842, 843, 844, 845, 845, 846, 847, 848, 888, 879, 881, 830, 882, 883, 884, 885, 818, 817, 886, 79].filterMap (fun i => lw_tbl[i]?) := by decide +kernel
theorem sl49 : (wsL_law.drop 1225).take 25 = [819, 828, 831, 834, 836, 820, 821, 90, 91, 822, 827, 832, 852, 809, 853, 811, 854, 813, 823, 825, 815, 848, 849, 851, 815].filterMap (fun i => lw_tbl[i]?) := by decide +kernel
theorem sl50 : (wsL_law.drop 1250).take 25 = [839, 840, 841, 842, 842, 843, 844, 845, 845, 846, 847, 848, 895, 798, 806, 807, 808, 810, 812, 814, 818, 817, 816, 79, 819].filterMap (fun i => lw_tbl[i]?) := by decide +kernel
theorem sl51 : (wsL_law.drop 1275).take 25 = [828, 831, 834, 836, 820, 821, 90, 91, 822, 827, 832, 852, 809, 853, 811, 854, 813, 823, 825, 815, 848, 849, 851, 815, 839].filterMap (fun i => lw_tbl[i]?) := by decide +kernel
theorem sl52 : (wsL_law.drop 1300).take 25 = [840, 841, 842, 842, 843, 844, 845, 845, 846, 847, 848, 838, 798, 806, 807, 808, 810, 812, 814, 818, 817, 816].filterMap (fun i => lw_tbl[i]?) := by decide +kernel
theorem sl_end : wsL_law.drop 1325 = [] := by decide +kernel
theorem wsL_in : ∀ w ∈ wsL_law, w ∈ lw_tbl := by
  show ∀ w ∈ wsL_law.drop 0, w ∈ lw_tbl
  refine in_c 0 (in_r _ sl0) ?_
  refine in_c 25 (in_r _ sl1) ?_
  refine in_c 50 (in_r _ sl2) ?_
  refine in_c 75 (in_r _ sl3) ?_
  refine in_c 100 (in_r _ sl4) ?_
  refine in_c 125 (in_r _ sl5) ?_
  refine in_c 150 (in_r _ sl6) ?_
  refine in_c 175 (in_r _ sl7) ?_
  refine in_c 200 (in_r _ sl8) ?_
  refine in_c 225 (in_r _ sl9) ?_
  refine in_c 250 (in_r _ sl10) ?_
  refine in_c 275 (in_r _ sl11) ?_
  refine in_c 300 (in_r _ sl12) ?_
  refine in_c 325 (in_r _ sl13) ?_
  refine in_c 350 (in_r _ sl14) ?_
  refine in_c 375 (in_r _ sl15) ?_
  refine in_c 400 (in_r _ sl16) ?_
  refine in_c 425 (in_r _ sl17) ?_
  refine in_c 450 (in_r _ sl18) ?_
  refine in_c 475 (in_r _ sl19) ?_
  refine in_c 500 (in_r _ sl20) ?_
  refine in_c 525 (in_r _ sl21) ?_
  refine in_c 550 (in_r _ sl22) ?_
  refine in_c 575 (in_r _ sl23) ?_
  refine in_c 600 (in_r _ sl24) ?_
  refine in_c 625 (in_r _ sl25) ?_
  refine in_c 650 (in_r _ sl26) ?_
  refine in_c 675 (in_r _ sl27) ?_
  refine in_c 700 (in_r _ sl28) ?_
  refine in_c 725 (in_r _ sl29) ?_
  refine in_c 750 (in_r _ sl30) ?_
  refine in_c 775 (in_r _ sl31) ?_
  refine in_c 800 (in_r _ sl32) ?_
  refine in_c 825 (in_r _ sl33) ?_
  refine in_c 850 (in_r _ sl34) ?_
  refine in_c 875 (in_r _ sl35) ?_
  refine in_c 900 (in_r _ sl36) ?_
  refine in_c 925 (in_r _ sl37) ?_
  refine in_c 950 (in_r _ sl38) ?_
  refine in_c 975 (in_r _ sl39) ?_
  refine in_c 1000 (in_r _ sl40) ?_
  refine in_c 1025 (in_r _ sl41) ?_
  refine in_c 1050 (in_r _ sl42) ?_
  refine in_c 1075 (in_r _ sl43) ?_
  refine in_c 1100 (in_r _ sl44) ?_
  refine in_c 1125 (in_r _ sl45) ?_
  refine in_c 1150 (in_r _ sl46) ?_
  refine in_c 1175 (in_r _ sl47) ?_
  refine in_c 1200 (in_r _ sl48) ?_
  refine in_c 1225 (in_r _ sl49) ?_
  refine in_c 1250 (in_r _ sl50) ?_
  refine in_c 1275 (in_r _ sl51) ?_
  refine in_c 1300 (in_r _ sl52) ?_
  intro w hw
  rw [show 1300 + 25 = 1325 from rfl, sl_end] at hw
  cases hw
