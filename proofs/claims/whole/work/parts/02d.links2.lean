/-! ===== more of the links, with their places among the words ===== -/
def xns : List Nat := [0, 0, 1, 1, 0, 2, 3, 2, 1, 4, 2, 0, 1, 1, 0, 2, 1, 0, 1, 1, 0, 0, 1, 2, 2, 0, 0, 2, 2, 2, 2, 2, 3, 2, 3, 2, 3, 3, 2, 1, 3, 2, 3, 1, 1, 1, 2, 2, 2, 3, 3, 2, 0, 0, 0, 2, 3, 2, 0, 0, 0, 0, 0, 2, 2, 2, 1, 0, 1, 1, 2, 2, 3, 3, 6, 3, 3, 3, 4, 2, 2, 3, 3, 1, 2, 3, 3, 1, 2, 1, 1, 1, 3, 1, 3, 1, 3, 2, 1, 2, 1, 1, 1, 2, 2, 1, 1, 2, 1, 1, 3, 2, 0, 0, 1, 3, 1, 3, 3, 1, 2, 2, 1, 0, 0, 2, 2, 2, 2, 2, 1, 2, 1, 0, 2, 2, 0, 1, 2, 3, 2, 1, 1, 0, 1, 2, 4, 1, 1, 1, 0, 2, 1, 2, 2, 3, 3, 6, 3, 2, 2, 2, 3, 3, 3, 3, 3, 3, 3, 4, 4, 2, 2, 2, 2, 2, 3, 3, 3, 1, 2, 2, 3, 2, 2, 3, 1, 1, 2, 2, 1, 1, 1, 1, 2, 3, 2, 2, 2, 3, 3, 3, 3, 4, 4, 7, 5, 5, 5, 5, 3, 4, 4, 5, 3, 4, 4, 5, 3, 4, 3, 3, 3, 5, 1]
def xn (j : Nat) : Nat := xns.getD j 0
def xOI : List (Nat × Nat) := [(0, 1), (1, 5), (2, 3), (4, 1), (5, 3), (6, 3), (7, 1)]
def xNM : Nat := 225
def xMMp : List (Nat × Nat × Nat × Nat) := [(1, 11, 1, 191), (2, 111, 2, 635), (2, 131, 1, 391), (5, 36, 2, 878), (6, 297, 3, 847), (6, 304, 4, 855), (9, 304, 2, 441)]
def xMM : List (Nat × Nat × Nat) := xMMp.map (fun q => (q.1, q.2.1, q.2.2.1))
-- places of static and code words of Math: {1: (192, 193), 2: (442, 443), 3: (848, 849), 4: (856, 857)}
def xMLp : List (Nat × Nat × Nat × Nat × Nat × Nat × Nat) := [(0, 23, 48, 0, 399, 400, 0), (0, 29, 47, 0, 389, 317, 0), (0, 32, 50, 0, 369, 370, 0), (0, 36, 49, 0, 372, 327, 0), (0, 39, 5, 1, 727, 366, 367), (1, 34, 48, 0, 559, 400, 0), (1, 40, 50, 0, 546, 370, 0), (1, 44, 14, 1, 597, 531, 532), (1, 47, 11, 1, 598, 552, 553), (1, 50, 12, 1, 580, 561, 562), (1, 54, 13, 1, 583, 556, 557), (1, 57, 15, 1, 599, 543, 544), (1, 65, 18, 0, 584, 585, 0), (1, 69, 10, 0, 587, 588, 0), (1, 73, 197, 0, 760, 754, 0), (2, 44, 47, 0, 390, 317, 0), (2, 50, 4, 1, 361, 362, 363), (2, 53, 5, 1, 365, 366, 367), (2, 57, 43, 1, 373, 375, 1), (2, 61, 24, 1, 619, 620, 621), (2, 65, 40, 1, 623, 625, 14), (2, 69, 22, 1, 627, 628, 629), (2, 73, 34, 1, 631, 633, 15), (2, 76, 23, 1, 636, 637, 638), (2, 79, 42, 1, 643, 645, 16), (2, 83, 28, 1, 679, 616, 617), (2, 86, 49, 0, 447, 327, 0), (2, 90, 32, 1, 711, 713, 21), (2, 94, 30, 1, 715, 716, 717), (2, 97, 1, 1, 377, 378, 379), (2, 100, 3, 1, 385, 386, 387), (2, 103, 7, 1, 719, 720, 721), (2, 107, 6, 1, 723, 724, 725), (2, 116, 196, 0, 640, 641, 0), (2, 121, 36, 1, 773, 775, 22), (2, 124, 41, 1, 777, 779, 23), (2, 128, 39, 1, 781, 783, 24), (2, 134, 38, 1, 796, 798, 25), (2, 137, 35, 1, 800, 770, 771), (2, 140, 26, 1, 403, 405, 3), (2, 143, 44, 1, 381, 383, 2), (2, 146, 45, 0, 392, 393, 0), (2, 157, 46, 1, 423, 425, 4), (2, 161, 2, 1, 395, 396, 397), (2, 167, 51, 0, 427, 428, 0), (3, 10, 198, 0, 431, 432, 0), (4, 9, 8, 2, 187, 188, 0), (4, 24, 14, 1, 530, 531, 532), (4, 27, 15, 1, 542, 543, 544), (4, 31, 58, 1, 547, 549, 10), (4, 34, 11, 1, 551, 552, 553), (4, 38, 12, 1, 560, 561, 562), (4, 42, 13, 1, 555, 556, 557), (4, 47, 9, 0, 740, 535, 0), (4, 51, 10, 0, 741, 588, 0), (5, 29, 62, 1, 501, 503, 8), (5, 32, 66, 1, 507, 509, 9), (6, 47, 8, 2, 214, 188, 0), (6, 50, 93, 0, 245, 246, 0), (6, 53, 47, 0, 316, 317, 0), (6, 59, 49, 0, 326, 327, 0), (6, 64, 96, 0, 338, 339, 0), (6, 68, 27, 1, 357, 358, 359), (6, 72, 103, 1, 448, 450, 5), (6, 76, 98, 1, 464, 466, 6), (6, 80, 106, 0, 478, 479, 0), (6, 91, 104, 1, 484, 486, 7), (6, 95, 63, 1, 497, 498, 499), (6, 98, 60, 1, 514, 515, 516), (6, 103, 54, 1, 526, 527, 528), (6, 106, 9, 0, 534, 535, 0), (6, 110, 55, 1, 538, 539, 540), (6, 114, 105, 1, 564, 566, 11), (6, 117, 94, 0, 607, 608, 0), (6, 120, 97, 1, 610, 612, 13), (6, 123, 28, 1, 615, 616, 617), (6, 126, 100, 1, 647, 649, 17), (6, 130, 101, 1, 653, 655, 18), (6, 134, 110, 1, 658, 660, 19), (6, 138, 29, 1, 675, 676, 677), (6, 141, 107, 0, 680, 681, 0), (6, 145, 111, 1, 685, 687, 20), (6, 154, 31, 1, 707, 708, 709), (6, 157, 30, 1, 728, 716, 717), (6, 160, 57, 1, 736, 737, 738), (6, 164, 33, 1, 749, 750, 751), (6, 167, 197, 0, 753, 754, 0), (6, 173, 19, 1, 756, 757, 758), (6, 179, 35, 1, 769, 770, 771), (6, 182, 37, 1, 792, 793, 794), (6, 186, 22, 1, 808, 628, 629), (6, 189, 95, 0, 816, 817, 0), (6, 192, 99, 1, 820, 822, 26), (6, 195, 23, 1, 825, 637, 638), (6, 198, 24, 1, 833, 620, 621), (6, 202, 108, 1, 842, 844, 27), (6, 205, 109, 1, 850, 852, 28), (6, 208, 65, 1, 858, 859, 860), (6, 214, 61, 1, 863, 864, 865), (6, 218, 64, 1, 874, 875, 876), (6, 222, 20, 1, 900, 901, 902), (6, 225, 11, 1, 689, 552, 553), (6, 230, 12, 1, 690, 561, 562), (6, 233, 13, 1, 691, 556, 557), (6, 236, 10, 0, 919, 588, 0), (6, 257, 48, 0, 652, 400, 0), (6, 260, 102, 1, 572, 574, 12), (6, 265, 25, 1, 452, 453, 454), (6, 270, 50, 0, 489, 370, 0), (6, 273, 53, 1, 568, 569, 570), (6, 277, 17, 1, 576, 577, 578), (6, 283, 16, 1, 593, 594, 595), (6, 309, 56, 1, 663, 664, 665), (7, 68, 115, 0, 1023, 1024, 0), (7, 72, 116, 0, 1019, 1020, 0), (7, 81, 122, 1, 1063, 1065, 36), (7, 87, 120, 1, 1157, 1159, 47), (7, 91, 121, 1, 1055, 1057, 34), (7, 95, 123, 1, 1059, 1061, 35), (7, 99, 125, 1, 1153, 1155, 46), (7, 102, 119, 1, 1197, 1199, 56), (7, 106, 126, 1, 1225, 1227, 61), (7, 109, 128, 1, 1229, 1231, 62), (7, 112, 130, 1, 1265, 1267, 68), (7, 124, 132, 0, 1113, 1114, 0), (7, 135, 134, 0, 1129, 1130, 0), (7, 143, 118, 1, 1034, 1036, 30), (7, 147, 135, 1, 1119, 1121, 41), (7, 151, 138, 1, 1173, 1175, 51), (7, 155, 136, 1, 1123, 1125, 42), (7, 159, 133, 0, 1109, 1110, 0), (7, 191, 143, 1, 1094, 1096, 39), (7, 194, 144, 1, 1098, 1100, 40), (7, 198, 142, 0, 1085, 1086, 0), (7, 202, 114, 1, 1026, 1028, 29), (7, 205, 124, 1, 1047, 1049, 32), (7, 208, 150, 1, 1043, 1045, 31), (7, 211, 149, 1, 1051, 1053, 33), (7, 214, 153, 1, 1071, 1073, 37), (7, 218, 152, 1, 1075, 1077, 38), (7, 227, 137, 1, 1134, 1136, 43), (7, 230, 158, 1, 1149, 1151, 45), (7, 234, 159, 1, 1161, 1163, 48), (7, 237, 160, 1, 1165, 1167, 49), (7, 241, 139, 1, 1169, 1171, 50), (7, 244, 161, 1, 1177, 1179, 52), (7, 248, 117, 0, 1142, 1143, 0), (7, 251, 162, 1, 1145, 1147, 44), (7, 254, 163, 1, 1181, 1183, 53), (7, 258, 127, 1, 1193, 1195, 55), (7, 261, 140, 1, 1201, 1203, 57), (7, 264, 165, 1, 1189, 1191, 54), (7, 267, 167, 1, 1209, 1211, 58), (7, 270, 129, 1, 1221, 1223, 60), (7, 273, 169, 1, 1217, 1219, 59), (7, 277, 141, 1, 1237, 1239, 63), (7, 280, 172, 1, 1249, 1251, 65), (7, 283, 173, 1, 1245, 1247, 64), (7, 286, 131, 1, 1261, 1263, 67), (7, 289, 175, 1, 1257, 1259, 66), (7, 297, 177, 1, 1274, 1276, 69), (7, 300, 180, 1, 1286, 1288, 70), (7, 303, 183, 0, 1303, 1304, 0), (7, 306, 146, 1, 1306, 1308, 72), (7, 312, 184, 1, 1299, 1301, 71), (7, 315, 145, 1, 1318, 1320, 74), (7, 319, 186, 1, 1314, 1316, 73), (7, 322, 188, 1, 1326, 1328, 75), (7, 325, 191, 1, 1338, 1340, 76), (7, 330, 194, 1, 1351, 1353, 77), (8, 7, 68, 1, 241, 242, 243), (8, 15, 69, 1, 322, 323, 324), (8, 18, 70, 1, 333, 334, 335), (8, 24, 71, 1, 460, 461, 462), (8, 29, 72, 1, 474, 475, 476), (8, 33, 73, 1, 493, 494, 495), (8, 36, 74, 1, 521, 522, 523), (8, 40, 75, 1, 603, 604, 605), (8, 44, 76, 1, 671, 672, 673), (8, 47, 77, 1, 695, 696, 697), (8, 50, 78, 1, 703, 704, 705), (8, 54, 79, 1, 732, 733, 734), (8, 57, 80, 1, 745, 746, 747), (8, 61, 81, 1, 764, 765, 766), (8, 64, 82, 1, 788, 789, 790), (8, 67, 83, 1, 804, 805, 806), (8, 70, 84, 1, 812, 813, 814), (8, 74, 85, 1, 829, 830, 831), (8, 77, 86, 1, 837, 838, 839), (8, 80, 87, 1, 870, 871, 872), (8, 83, 88, 1, 882, 883, 884), (8, 86, 89, 1, 889, 890, 891), (8, 90, 90, 1, 896, 897, 898), (8, 93, 91, 1, 907, 908, 909), (8, 96, 92, 1, 914, 915, 916), (8, 100, 67, 2, 100, 101, 0), (8, 103, 112, 2, 922, 923, 0), (8, 104, 199, 0, 237, 238, 0), (8, 109, 147, 1, 1015, 1016, 1017), (8, 110, 113, 1, 1011, 1012, 1013), (8, 114, 200, 0, 319, 320, 0), (8, 116, 148, 1, 1030, 1031, 1032), (8, 117, 201, 0, 329, 330, 0), (8, 120, 151, 1, 1038, 1039, 1040), (8, 121, 202, 0, 456, 457, 0), (8, 123, 154, 1, 1067, 1068, 1069), (8, 124, 203, 0, 471, 472, 0), (8, 127, 155, 1, 1079, 1080, 1081), (8, 128, 204, 0, 490, 491, 0), (8, 130, 156, 1, 1090, 1091, 1092), (8, 131, 205, 0, 518, 519, 0), (8, 134, 157, 1, 1103, 1104, 1105), (8, 135, 206, 0, 600, 601, 0), (8, 138, 164, 1, 1138, 1139, 1140), (8, 139, 207, 0, 668, 669, 0), (8, 141, 166, 1, 1185, 1186, 1187), (8, 142, 208, 0, 692, 693, 0), (8, 144, 168, 1, 1205, 1206, 1207), (8, 145, 209, 0, 700, 701, 0), (8, 148, 170, 1, 1213, 1214, 1215), (8, 149, 210, 0, 729, 730, 0), (8, 151, 171, 1, 1233, 1234, 1235), (8, 152, 211, 0, 742, 743, 0), (8, 155, 174, 1, 1241, 1242, 1243), (8, 156, 212, 0, 761, 762, 0), (8, 158, 176, 1, 1253, 1254, 1255), (8, 159, 213, 0, 785, 786, 0), (8, 161, 178, 1, 1269, 1270, 1271), (8, 162, 214, 0, 801, 802, 0), (8, 164, 179, 1, 1278, 1279, 1280), (8, 165, 215, 0, 809, 810, 0), (8, 167, 181, 1, 1282, 1283, 1284), (8, 168, 216, 0, 826, 827, 0), (8, 170, 182, 1, 1290, 1291, 1292), (8, 171, 217, 0, 834, 835, 0), (8, 173, 185, 1, 1294, 1295, 1296), (8, 174, 218, 0, 867, 868, 0), (8, 176, 187, 1, 1310, 1311, 1312), (8, 177, 219, 0, 879, 880, 0), (8, 179, 189, 1, 1322, 1323, 1324), (8, 180, 220, 0, 886, 887, 0), (8, 182, 190, 1, 1330, 1331, 1332), (8, 183, 221, 0, 893, 894, 0), (8, 185, 192, 1, 1334, 1335, 1336), (8, 186, 222, 0, 904, 905, 0), (8, 188, 193, 1, 1342, 1343, 1344), (8, 189, 223, 0, 911, 912, 0), (8, 191, 195, 1, 1346, 1347, 1348)]
def xcwp : List Nat := [118, 380, 398, 388, 364, 368, 726, 722, 189, 536, 589, 554, 563, 558, 533, 545, 596, 579, 586, 759, 903, 112, 630, 639, 622, 455, 406, 360, 618, 678, 718, 710, 714, 752, 634, 772, 776, 795, 799, 784, 626, 780, 646, 376, 384, 394, 426, 318, 401, 328, 371, 429, 183, 571, 529, 541, 666, 739, 550, 164, 517, 866, 504, 500, 877, 861, 510, 102, 244, 325, 336, 463, 477, 496, 524, 606, 674, 698, 706, 735, 748, 767, 791, 807, 815, 832, 840, 873, 885, 892, 899, 910, 917, 247, 609, 818, 340, 613, 467, 823, 650, 656, 575, 451, 487, 567, 480, 682, 845, 853, 661, 688, 924, 1014, 1029, 1025, 1021, 1144, 1037, 1200, 1160, 1058, 1066, 1062, 1050, 1156, 1228, 1196, 1232, 1224, 1268, 1264, 1115, 1111, 1131, 1122, 1126, 1137, 1176, 1172, 1204, 1240, 1087, 1097, 1101, 1321, 1309, 1018, 1033, 1054, 1046, 1041, 1078, 1074, 1070, 1082, 1093, 1106, 1152, 1164, 1168, 1180, 1148, 1184, 1141, 1192, 1188, 1212, 1208, 1220, 1216, 1236, 1252, 1248, 1244, 1260, 1256, 1277, 1272, 1281, 1289, 1285, 1293, 1305, 1302, 1297, 1317, 1313, 1329, 1325, 1333, 1341, 1337, 1345, 1354, 1349, 642, 755, 433, 239, 321, 331, 458, 473, 492, 520, 602, 670, 694, 702, 731, 744, 763, 787, 803, 811, 828, 836, 869, 881, 888, 895, 906, 913]
def xcip : List Nat := [81, 81, 81, 81, 81, 81, 81, 81, 84, 84, 84, 84, 84, 84, 84, 84, 84, 84, 84, 84, 84, 80, 80, 80, 80, 80, 80, 80, 80, 80, 80, 80, 80, 80, 80, 80, 80, 80, 80, 80, 80, 80, 80, 80, 80, 80, 80, 91, 91, 91, 91, 91, 83, 83, 83, 83, 83, 83, 83, 82, 82, 82, 82, 82, 82, 82, 82, 79, 79, 79, 79, 79, 79, 79, 79, 79, 79, 79, 79, 79, 79, 79, 79, 79, 79, 79, 79, 79, 79, 79, 79, 79, 79, 79, 79, 79, 79, 79, 79, 79, 79, 79, 79, 79, 79, 79, 79, 79, 79, 79, 79, 79, 86, 86, 86, 86, 86, 86, 86, 86, 86, 86, 86, 86, 86, 86, 86, 86, 86, 86, 86, 86, 86, 86, 86, 86, 86, 86, 86, 86, 86, 86, 86, 86, 86, 86, 86, 86, 86, 86, 86, 86, 86, 86, 86, 86, 86, 86, 86, 86, 86, 86, 86, 86, 86, 86, 86, 86, 86, 86, 86, 86, 86, 86, 86, 86, 86, 86, 86, 86, 86, 86, 86, 86, 86, 86, 86, 86, 86, 86, 86, 86, 86, 86, 86, 86, 96, 97, 94, 78, 78, 78, 78, 78, 78, 78, 78, 78, 78, 78, 78, 78, 78, 78, 78, 78, 78, 78, 78, 78, 78, 78, 78, 78]
def xOIp : List (Nat × Nat × Nat) := [(0, 1, 119), (1, 5, 190), (2, 3, 113), (4, 1, 184), (5, 3, 165), (6, 3, 103), (7, 1, 925)]
def xNSp : List (Nat × Nat × Nat × Nat) := [(2, 33, 0, 117), (6, 28, 21, 111), (6, 35, 59, 163), (6, 42, 52, 182)]
theorem xML_eq : xML = xMLp.map (fun q => (q.1, q.2.1, q.2.2.1, q.2.2.2.1)) := by decide +kernel
theorem xMLp_ok : ∀ q ∈ xMLp, lw_tbl[q.2.2.2.2.1]? = some (.methodLink (xcn q.1) q.2.1 (xy q.2.2.1)) ∧ (q.2.2.2.1 = 0 → lw_tbl[q.2.2.2.2.2.1]? = some (.static (xy q.2.2.1))) ∧ (q.2.2.2.1 ≠ 0 → lw_tbl[q.2.2.2.2.2.1]? = some (.instanceMethod (xy q.2.2.1)) ∧ xhr q.2.2.1 = []) ∧ (q.2.2.2.1 = 1 → lw_tbl[q.2.2.2.2.2.2]? = some (.selects (xy q.2.2.1).cls (xy q.2.2.1) (xy q.2.2.1))) ∧ (q.2.2.2.1 = 2 → (xy q.2.2.1).name = "<init>" ∧ xr q.2.2.1 = none) ∧ q.2.2.1 + 1 < xNM := by decide +kernel
def xcw (j : Nat) : Cond := match xhr j with
  | [] => .code (xy j) (xb j) (xml j) (xr j)
  | h :: hh => .codeWith (xy j) (xb j) (xml j) (xr j) (h :: hh)
def xAll (P : Nat → Prop) : Nat → Prop
  | 0 => True
  | n + 1 => P n ∧ xAll P n
theorem xAll_get {P : Nat → Prop} : ∀ {n : Nat}, xAll P n → ∀ j, j < n → P j
  | 0, _, j, h => absurd h (Nat.not_lt_zero j)
  | n + 1, h, j, hj => by
    rcases Nat.lt_or_ge j n with g | g
    · exact xAll_get h.2 j g
    · rw [show j = n by omega]
      exact h.1
set_option maxRecDepth 100000 in
theorem xcw_0 : lw_tbl[118]? = some (xcw 0) := rfl
set_option maxRecDepth 100000 in
theorem xcw_1 : lw_tbl[380]? = some (xcw 1) := rfl
set_option maxRecDepth 100000 in
theorem xcw_2 : lw_tbl[398]? = some (xcw 2) := rfl
set_option maxRecDepth 100000 in
theorem xcw_3 : lw_tbl[388]? = some (xcw 3) := rfl
set_option maxRecDepth 100000 in
theorem xcw_4 : lw_tbl[364]? = some (xcw 4) := rfl
set_option maxRecDepth 100000 in
theorem xcw_5 : lw_tbl[368]? = some (xcw 5) := rfl
set_option maxRecDepth 100000 in
theorem xcw_6 : lw_tbl[726]? = some (xcw 6) := rfl
set_option maxRecDepth 100000 in
theorem xcw_7 : lw_tbl[722]? = some (xcw 7) := rfl
set_option maxRecDepth 100000 in
theorem xcw_8 : lw_tbl[189]? = some (xcw 8) := rfl
set_option maxRecDepth 100000 in
theorem xcw_9 : lw_tbl[536]? = some (xcw 9) := rfl
set_option maxRecDepth 100000 in
theorem xcw_10 : lw_tbl[589]? = some (xcw 10) := rfl
set_option maxRecDepth 100000 in
theorem xcw_11 : lw_tbl[554]? = some (xcw 11) := rfl
set_option maxRecDepth 100000 in
theorem xcw_12 : lw_tbl[563]? = some (xcw 12) := rfl
set_option maxRecDepth 100000 in
theorem xcw_13 : lw_tbl[558]? = some (xcw 13) := rfl
set_option maxRecDepth 100000 in
theorem xcw_14 : lw_tbl[533]? = some (xcw 14) := rfl
set_option maxRecDepth 100000 in
theorem xcw_15 : lw_tbl[545]? = some (xcw 15) := rfl
set_option maxRecDepth 100000 in
theorem xcw_16 : lw_tbl[596]? = some (xcw 16) := rfl
set_option maxRecDepth 100000 in
theorem xcw_17 : lw_tbl[579]? = some (xcw 17) := rfl
set_option maxRecDepth 100000 in
theorem xcw_18 : lw_tbl[586]? = some (xcw 18) := rfl
set_option maxRecDepth 100000 in
theorem xcw_19 : lw_tbl[759]? = some (xcw 19) := rfl
set_option maxRecDepth 100000 in
theorem xcw_20 : lw_tbl[903]? = some (xcw 20) := rfl
set_option maxRecDepth 100000 in
theorem xcw_21 : lw_tbl[112]? = some (xcw 21) := rfl
set_option maxRecDepth 100000 in
theorem xcw_22 : lw_tbl[630]? = some (xcw 22) := rfl
set_option maxRecDepth 100000 in
theorem xcw_23 : lw_tbl[639]? = some (xcw 23) := rfl
set_option maxRecDepth 100000 in
theorem xcw_24 : lw_tbl[622]? = some (xcw 24) := rfl
set_option maxRecDepth 100000 in
theorem xcw_25 : lw_tbl[455]? = some (xcw 25) := rfl
set_option maxRecDepth 100000 in
theorem xcw_26 : lw_tbl[406]? = some (xcw 26) := rfl
set_option maxRecDepth 100000 in
theorem xcw_27 : lw_tbl[360]? = some (xcw 27) := rfl
set_option maxRecDepth 100000 in
theorem xcw_28 : lw_tbl[618]? = some (xcw 28) := rfl
set_option maxRecDepth 100000 in
theorem xcw_29 : lw_tbl[678]? = some (xcw 29) := rfl
set_option maxRecDepth 100000 in
theorem xcw_30 : lw_tbl[718]? = some (xcw 30) := rfl
set_option maxRecDepth 100000 in
theorem xcw_31 : lw_tbl[710]? = some (xcw 31) := rfl
set_option maxRecDepth 100000 in
theorem xcw_32 : lw_tbl[714]? = some (xcw 32) := rfl
set_option maxRecDepth 100000 in
theorem xcw_33 : lw_tbl[752]? = some (xcw 33) := rfl
set_option maxRecDepth 100000 in
theorem xcw_34 : lw_tbl[634]? = some (xcw 34) := rfl
set_option maxRecDepth 100000 in
theorem xcw_35 : lw_tbl[772]? = some (xcw 35) := rfl
set_option maxRecDepth 100000 in
theorem xcw_36 : lw_tbl[776]? = some (xcw 36) := rfl
set_option maxRecDepth 100000 in
theorem xcw_37 : lw_tbl[795]? = some (xcw 37) := rfl
set_option maxRecDepth 100000 in
theorem xcw_38 : lw_tbl[799]? = some (xcw 38) := rfl
set_option maxRecDepth 100000 in
theorem xcw_39 : lw_tbl[784]? = some (xcw 39) := rfl
set_option maxRecDepth 100000 in
theorem xcw_40 : lw_tbl[626]? = some (xcw 40) := rfl
set_option maxRecDepth 100000 in
theorem xcw_41 : lw_tbl[780]? = some (xcw 41) := rfl
set_option maxRecDepth 100000 in
theorem xcw_42 : lw_tbl[646]? = some (xcw 42) := rfl
set_option maxRecDepth 100000 in
theorem xcw_43 : lw_tbl[376]? = some (xcw 43) := rfl
set_option maxRecDepth 100000 in
theorem xcw_44 : lw_tbl[384]? = some (xcw 44) := rfl
set_option maxRecDepth 100000 in
theorem xcw_45 : lw_tbl[394]? = some (xcw 45) := rfl
set_option maxRecDepth 100000 in
theorem xcw_46 : lw_tbl[426]? = some (xcw 46) := rfl
set_option maxRecDepth 100000 in
theorem xcw_47 : lw_tbl[318]? = some (xcw 47) := rfl
set_option maxRecDepth 100000 in
theorem xcw_48 : lw_tbl[401]? = some (xcw 48) := rfl
set_option maxRecDepth 100000 in
theorem xcw_49 : lw_tbl[328]? = some (xcw 49) := rfl
set_option maxRecDepth 100000 in
theorem xcw_50 : lw_tbl[371]? = some (xcw 50) := rfl
set_option maxRecDepth 100000 in
theorem xcw_51 : lw_tbl[429]? = some (xcw 51) := rfl
set_option maxRecDepth 100000 in
theorem xcw_52 : lw_tbl[183]? = some (xcw 52) := rfl
set_option maxRecDepth 100000 in
theorem xcw_53 : lw_tbl[571]? = some (xcw 53) := rfl
set_option maxRecDepth 100000 in
theorem xcw_54 : lw_tbl[529]? = some (xcw 54) := rfl
set_option maxRecDepth 100000 in
theorem xcw_55 : lw_tbl[541]? = some (xcw 55) := rfl
set_option maxRecDepth 100000 in
theorem xcw_56 : lw_tbl[666]? = some (xcw 56) := rfl
set_option maxRecDepth 100000 in
theorem xcw_57 : lw_tbl[739]? = some (xcw 57) := rfl
set_option maxRecDepth 100000 in
theorem xcw_58 : lw_tbl[550]? = some (xcw 58) := rfl
set_option maxRecDepth 100000 in
theorem xcw_59 : lw_tbl[164]? = some (xcw 59) := rfl
set_option maxRecDepth 100000 in
theorem xcw_60 : lw_tbl[517]? = some (xcw 60) := rfl
set_option maxRecDepth 100000 in
theorem xcw_61 : lw_tbl[866]? = some (xcw 61) := rfl
set_option maxRecDepth 100000 in
theorem xcw_62 : lw_tbl[504]? = some (xcw 62) := rfl
set_option maxRecDepth 100000 in
theorem xcw_63 : lw_tbl[500]? = some (xcw 63) := rfl
set_option maxRecDepth 100000 in
theorem xcw_64 : lw_tbl[877]? = some (xcw 64) := rfl
set_option maxRecDepth 100000 in
theorem xcw_65 : lw_tbl[861]? = some (xcw 65) := rfl
set_option maxRecDepth 100000 in
theorem xcw_66 : lw_tbl[510]? = some (xcw 66) := rfl
set_option maxRecDepth 100000 in
theorem xcw_67 : lw_tbl[102]? = some (xcw 67) := rfl
set_option maxRecDepth 100000 in
theorem xcw_68 : lw_tbl[244]? = some (xcw 68) := rfl
set_option maxRecDepth 100000 in
theorem xcw_69 : lw_tbl[325]? = some (xcw 69) := rfl
set_option maxRecDepth 100000 in
theorem xcw_70 : lw_tbl[336]? = some (xcw 70) := rfl
set_option maxRecDepth 100000 in
theorem xcw_71 : lw_tbl[463]? = some (xcw 71) := rfl
set_option maxRecDepth 100000 in
theorem xcw_72 : lw_tbl[477]? = some (xcw 72) := rfl
set_option maxRecDepth 100000 in
theorem xcw_73 : lw_tbl[496]? = some (xcw 73) := rfl
set_option maxRecDepth 100000 in
theorem xcw_74 : lw_tbl[524]? = some (xcw 74) := rfl
set_option maxRecDepth 100000 in
theorem xcw_75 : lw_tbl[606]? = some (xcw 75) := rfl
set_option maxRecDepth 100000 in
theorem xcw_76 : lw_tbl[674]? = some (xcw 76) := rfl
set_option maxRecDepth 100000 in
theorem xcw_77 : lw_tbl[698]? = some (xcw 77) := rfl
set_option maxRecDepth 100000 in
theorem xcw_78 : lw_tbl[706]? = some (xcw 78) := rfl
set_option maxRecDepth 100000 in
theorem xcw_79 : lw_tbl[735]? = some (xcw 79) := rfl
set_option maxRecDepth 100000 in
theorem xcw_80 : lw_tbl[748]? = some (xcw 80) := rfl
set_option maxRecDepth 100000 in
theorem xcw_81 : lw_tbl[767]? = some (xcw 81) := rfl
set_option maxRecDepth 100000 in
theorem xcw_82 : lw_tbl[791]? = some (xcw 82) := rfl
set_option maxRecDepth 100000 in
theorem xcw_83 : lw_tbl[807]? = some (xcw 83) := rfl
set_option maxRecDepth 100000 in
theorem xcw_84 : lw_tbl[815]? = some (xcw 84) := rfl
set_option maxRecDepth 100000 in
theorem xcw_85 : lw_tbl[832]? = some (xcw 85) := rfl
set_option maxRecDepth 100000 in
theorem xcw_86 : lw_tbl[840]? = some (xcw 86) := rfl
set_option maxRecDepth 100000 in
theorem xcw_87 : lw_tbl[873]? = some (xcw 87) := rfl
set_option maxRecDepth 100000 in
theorem xcw_88 : lw_tbl[885]? = some (xcw 88) := rfl
set_option maxRecDepth 100000 in
theorem xcw_89 : lw_tbl[892]? = some (xcw 89) := rfl
set_option maxRecDepth 100000 in
theorem xcw_90 : lw_tbl[899]? = some (xcw 90) := rfl
set_option maxRecDepth 100000 in
theorem xcw_91 : lw_tbl[910]? = some (xcw 91) := rfl
set_option maxRecDepth 100000 in
theorem xcw_92 : lw_tbl[917]? = some (xcw 92) := rfl
set_option maxRecDepth 100000 in
theorem xcw_93 : lw_tbl[247]? = some (xcw 93) := rfl
set_option maxRecDepth 100000 in
theorem xcw_94 : lw_tbl[609]? = some (xcw 94) := rfl
set_option maxRecDepth 100000 in
theorem xcw_95 : lw_tbl[818]? = some (xcw 95) := rfl
set_option maxRecDepth 100000 in
theorem xcw_96 : lw_tbl[340]? = some (xcw 96) := rfl
set_option maxRecDepth 100000 in
theorem xcw_97 : lw_tbl[613]? = some (xcw 97) := rfl
set_option maxRecDepth 100000 in
theorem xcw_98 : lw_tbl[467]? = some (xcw 98) := rfl
set_option maxRecDepth 100000 in
theorem xcw_99 : lw_tbl[823]? = some (xcw 99) := rfl
set_option maxRecDepth 100000 in
theorem xcw_100 : lw_tbl[650]? = some (xcw 100) := rfl
set_option maxRecDepth 100000 in
theorem xcw_101 : lw_tbl[656]? = some (xcw 101) := rfl
set_option maxRecDepth 100000 in
theorem xcw_102 : lw_tbl[575]? = some (xcw 102) := rfl
set_option maxRecDepth 100000 in
theorem xcw_103 : lw_tbl[451]? = some (xcw 103) := rfl
set_option maxRecDepth 100000 in
theorem xcw_104 : lw_tbl[487]? = some (xcw 104) := rfl
set_option maxRecDepth 100000 in
theorem xcw_105 : lw_tbl[567]? = some (xcw 105) := rfl
set_option maxRecDepth 100000 in
theorem xcw_106 : lw_tbl[480]? = some (xcw 106) := rfl
set_option maxRecDepth 100000 in
theorem xcw_107 : lw_tbl[682]? = some (xcw 107) := rfl
set_option maxRecDepth 100000 in
theorem xcw_108 : lw_tbl[845]? = some (xcw 108) := rfl
set_option maxRecDepth 100000 in
theorem xcw_109 : lw_tbl[853]? = some (xcw 109) := rfl
set_option maxRecDepth 100000 in
theorem xcw_110 : lw_tbl[661]? = some (xcw 110) := rfl
set_option maxRecDepth 100000 in
theorem xcw_111 : lw_tbl[688]? = some (xcw 111) := rfl
set_option maxRecDepth 100000 in
theorem xcw_112 : lw_tbl[924]? = some (xcw 112) := rfl
set_option maxRecDepth 100000 in
theorem xcw_113 : lw_tbl[1014]? = some (xcw 113) := rfl
set_option maxRecDepth 100000 in
theorem xcw_114 : lw_tbl[1029]? = some (xcw 114) := rfl
set_option maxRecDepth 100000 in
theorem xcw_115 : lw_tbl[1025]? = some (xcw 115) := rfl
set_option maxRecDepth 100000 in
theorem xcw_116 : lw_tbl[1021]? = some (xcw 116) := rfl
set_option maxRecDepth 100000 in
theorem xcw_117 : lw_tbl[1144]? = some (xcw 117) := rfl
set_option maxRecDepth 100000 in
theorem xcw_118 : lw_tbl[1037]? = some (xcw 118) := rfl
set_option maxRecDepth 100000 in
theorem xcw_119 : lw_tbl[1200]? = some (xcw 119) := rfl
set_option maxRecDepth 100000 in
theorem xcw_120 : lw_tbl[1160]? = some (xcw 120) := rfl
set_option maxRecDepth 100000 in
theorem xcw_121 : lw_tbl[1058]? = some (xcw 121) := rfl
set_option maxRecDepth 100000 in
theorem xcw_122 : lw_tbl[1066]? = some (xcw 122) := rfl
set_option maxRecDepth 100000 in
theorem xcw_123 : lw_tbl[1062]? = some (xcw 123) := rfl
set_option maxRecDepth 100000 in
theorem xcw_124 : lw_tbl[1050]? = some (xcw 124) := rfl
set_option maxRecDepth 100000 in
theorem xcw_125 : lw_tbl[1156]? = some (xcw 125) := rfl
set_option maxRecDepth 100000 in
theorem xcw_126 : lw_tbl[1228]? = some (xcw 126) := rfl
set_option maxRecDepth 100000 in
theorem xcw_127 : lw_tbl[1196]? = some (xcw 127) := rfl
set_option maxRecDepth 100000 in
theorem xcw_128 : lw_tbl[1232]? = some (xcw 128) := rfl
set_option maxRecDepth 100000 in
theorem xcw_129 : lw_tbl[1224]? = some (xcw 129) := rfl
set_option maxRecDepth 100000 in
theorem xcw_130 : lw_tbl[1268]? = some (xcw 130) := rfl
set_option maxRecDepth 100000 in
theorem xcw_131 : lw_tbl[1264]? = some (xcw 131) := rfl
set_option maxRecDepth 100000 in
theorem xcw_132 : lw_tbl[1115]? = some (xcw 132) := rfl
set_option maxRecDepth 100000 in
theorem xcw_133 : lw_tbl[1111]? = some (xcw 133) := rfl
set_option maxRecDepth 100000 in
theorem xcw_134 : lw_tbl[1131]? = some (xcw 134) := rfl
set_option maxRecDepth 100000 in
theorem xcw_135 : lw_tbl[1122]? = some (xcw 135) := rfl
set_option maxRecDepth 100000 in
theorem xcw_136 : lw_tbl[1126]? = some (xcw 136) := rfl
set_option maxRecDepth 100000 in
theorem xcw_137 : lw_tbl[1137]? = some (xcw 137) := rfl
set_option maxRecDepth 100000 in
theorem xcw_138 : lw_tbl[1176]? = some (xcw 138) := rfl
set_option maxRecDepth 100000 in
theorem xcw_139 : lw_tbl[1172]? = some (xcw 139) := rfl
set_option maxRecDepth 100000 in
theorem xcw_140 : lw_tbl[1204]? = some (xcw 140) := rfl
set_option maxRecDepth 100000 in
theorem xcw_141 : lw_tbl[1240]? = some (xcw 141) := rfl
set_option maxRecDepth 100000 in
theorem xcw_142 : lw_tbl[1087]? = some (xcw 142) := rfl
set_option maxRecDepth 100000 in
theorem xcw_143 : lw_tbl[1097]? = some (xcw 143) := rfl
set_option maxRecDepth 100000 in
theorem xcw_144 : lw_tbl[1101]? = some (xcw 144) := rfl
set_option maxRecDepth 100000 in
theorem xcw_145 : lw_tbl[1321]? = some (xcw 145) := rfl
set_option maxRecDepth 100000 in
theorem xcw_146 : lw_tbl[1309]? = some (xcw 146) := rfl
set_option maxRecDepth 100000 in
theorem xcw_147 : lw_tbl[1018]? = some (xcw 147) := rfl
set_option maxRecDepth 100000 in
theorem xcw_148 : lw_tbl[1033]? = some (xcw 148) := rfl
set_option maxRecDepth 100000 in
theorem xcw_149 : lw_tbl[1054]? = some (xcw 149) := rfl
set_option maxRecDepth 100000 in
theorem xcw_150 : lw_tbl[1046]? = some (xcw 150) := rfl
set_option maxRecDepth 100000 in
theorem xcw_151 : lw_tbl[1041]? = some (xcw 151) := rfl
set_option maxRecDepth 100000 in
theorem xcw_152 : lw_tbl[1078]? = some (xcw 152) := rfl
set_option maxRecDepth 100000 in
theorem xcw_153 : lw_tbl[1074]? = some (xcw 153) := rfl
set_option maxRecDepth 100000 in
theorem xcw_154 : lw_tbl[1070]? = some (xcw 154) := rfl
set_option maxRecDepth 100000 in
theorem xcw_155 : lw_tbl[1082]? = some (xcw 155) := rfl
set_option maxRecDepth 100000 in
theorem xcw_156 : lw_tbl[1093]? = some (xcw 156) := rfl
set_option maxRecDepth 100000 in
theorem xcw_157 : lw_tbl[1106]? = some (xcw 157) := rfl
set_option maxRecDepth 100000 in
theorem xcw_158 : lw_tbl[1152]? = some (xcw 158) := rfl
set_option maxRecDepth 100000 in
theorem xcw_159 : lw_tbl[1164]? = some (xcw 159) := rfl
set_option maxRecDepth 100000 in
theorem xcw_160 : lw_tbl[1168]? = some (xcw 160) := rfl
set_option maxRecDepth 100000 in
theorem xcw_161 : lw_tbl[1180]? = some (xcw 161) := rfl
set_option maxRecDepth 100000 in
theorem xcw_162 : lw_tbl[1148]? = some (xcw 162) := rfl
set_option maxRecDepth 100000 in
theorem xcw_163 : lw_tbl[1184]? = some (xcw 163) := rfl
set_option maxRecDepth 100000 in
theorem xcw_164 : lw_tbl[1141]? = some (xcw 164) := rfl
set_option maxRecDepth 100000 in
theorem xcw_165 : lw_tbl[1192]? = some (xcw 165) := rfl
set_option maxRecDepth 100000 in
theorem xcw_166 : lw_tbl[1188]? = some (xcw 166) := rfl
set_option maxRecDepth 100000 in
theorem xcw_167 : lw_tbl[1212]? = some (xcw 167) := rfl
set_option maxRecDepth 100000 in
theorem xcw_168 : lw_tbl[1208]? = some (xcw 168) := rfl
set_option maxRecDepth 100000 in
theorem xcw_169 : lw_tbl[1220]? = some (xcw 169) := rfl
set_option maxRecDepth 100000 in
theorem xcw_170 : lw_tbl[1216]? = some (xcw 170) := rfl
set_option maxRecDepth 100000 in
theorem xcw_171 : lw_tbl[1236]? = some (xcw 171) := rfl
set_option maxRecDepth 100000 in
theorem xcw_172 : lw_tbl[1252]? = some (xcw 172) := rfl
set_option maxRecDepth 100000 in
theorem xcw_173 : lw_tbl[1248]? = some (xcw 173) := rfl
set_option maxRecDepth 100000 in
theorem xcw_174 : lw_tbl[1244]? = some (xcw 174) := rfl
set_option maxRecDepth 100000 in
theorem xcw_175 : lw_tbl[1260]? = some (xcw 175) := rfl
set_option maxRecDepth 100000 in
theorem xcw_176 : lw_tbl[1256]? = some (xcw 176) := rfl
set_option maxRecDepth 100000 in
theorem xcw_177 : lw_tbl[1277]? = some (xcw 177) := rfl
set_option maxRecDepth 100000 in
theorem xcw_178 : lw_tbl[1272]? = some (xcw 178) := rfl
set_option maxRecDepth 100000 in
theorem xcw_179 : lw_tbl[1281]? = some (xcw 179) := rfl
set_option maxRecDepth 100000 in
theorem xcw_180 : lw_tbl[1289]? = some (xcw 180) := rfl
set_option maxRecDepth 100000 in
theorem xcw_181 : lw_tbl[1285]? = some (xcw 181) := rfl
set_option maxRecDepth 100000 in
theorem xcw_182 : lw_tbl[1293]? = some (xcw 182) := rfl
set_option maxRecDepth 100000 in
theorem xcw_183 : lw_tbl[1305]? = some (xcw 183) := rfl
set_option maxRecDepth 100000 in
theorem xcw_184 : lw_tbl[1302]? = some (xcw 184) := rfl
set_option maxRecDepth 100000 in
theorem xcw_185 : lw_tbl[1297]? = some (xcw 185) := rfl
set_option maxRecDepth 100000 in
theorem xcw_186 : lw_tbl[1317]? = some (xcw 186) := rfl
set_option maxRecDepth 100000 in
theorem xcw_187 : lw_tbl[1313]? = some (xcw 187) := rfl
set_option maxRecDepth 100000 in
theorem xcw_188 : lw_tbl[1329]? = some (xcw 188) := rfl
set_option maxRecDepth 100000 in
theorem xcw_189 : lw_tbl[1325]? = some (xcw 189) := rfl
set_option maxRecDepth 100000 in
theorem xcw_190 : lw_tbl[1333]? = some (xcw 190) := rfl
set_option maxRecDepth 100000 in
theorem xcw_191 : lw_tbl[1341]? = some (xcw 191) := rfl
set_option maxRecDepth 100000 in
theorem xcw_192 : lw_tbl[1337]? = some (xcw 192) := rfl
set_option maxRecDepth 100000 in
theorem xcw_193 : lw_tbl[1345]? = some (xcw 193) := rfl
set_option maxRecDepth 100000 in
theorem xcw_194 : lw_tbl[1354]? = some (xcw 194) := rfl
set_option maxRecDepth 100000 in
theorem xcw_195 : lw_tbl[1349]? = some (xcw 195) := rfl
set_option maxRecDepth 100000 in
theorem xcw_196 : lw_tbl[642]? = some (xcw 196) := rfl
set_option maxRecDepth 100000 in
theorem xcw_197 : lw_tbl[755]? = some (xcw 197) := rfl
set_option maxRecDepth 100000 in
theorem xcw_198 : lw_tbl[433]? = some (xcw 198) := rfl
set_option maxRecDepth 100000 in
theorem xcw_199 : lw_tbl[239]? = some (xcw 199) := rfl
set_option maxRecDepth 100000 in
theorem xcw_200 : lw_tbl[321]? = some (xcw 200) := rfl
set_option maxRecDepth 100000 in
theorem xcw_201 : lw_tbl[331]? = some (xcw 201) := rfl
set_option maxRecDepth 100000 in
theorem xcw_202 : lw_tbl[458]? = some (xcw 202) := rfl
set_option maxRecDepth 100000 in
theorem xcw_203 : lw_tbl[473]? = some (xcw 203) := rfl
set_option maxRecDepth 100000 in
theorem xcw_204 : lw_tbl[492]? = some (xcw 204) := rfl
set_option maxRecDepth 100000 in
theorem xcw_205 : lw_tbl[520]? = some (xcw 205) := rfl
set_option maxRecDepth 100000 in
theorem xcw_206 : lw_tbl[602]? = some (xcw 206) := rfl
set_option maxRecDepth 100000 in
theorem xcw_207 : lw_tbl[670]? = some (xcw 207) := rfl
set_option maxRecDepth 100000 in
theorem xcw_208 : lw_tbl[694]? = some (xcw 208) := rfl
set_option maxRecDepth 100000 in
theorem xcw_209 : lw_tbl[702]? = some (xcw 209) := rfl
set_option maxRecDepth 100000 in
theorem xcw_210 : lw_tbl[731]? = some (xcw 210) := rfl
set_option maxRecDepth 100000 in
theorem xcw_211 : lw_tbl[744]? = some (xcw 211) := rfl
set_option maxRecDepth 100000 in
theorem xcw_212 : lw_tbl[763]? = some (xcw 212) := rfl
set_option maxRecDepth 100000 in
theorem xcw_213 : lw_tbl[787]? = some (xcw 213) := rfl
set_option maxRecDepth 100000 in
theorem xcw_214 : lw_tbl[803]? = some (xcw 214) := rfl
set_option maxRecDepth 100000 in
theorem xcw_215 : lw_tbl[811]? = some (xcw 215) := rfl
set_option maxRecDepth 100000 in
theorem xcw_216 : lw_tbl[828]? = some (xcw 216) := rfl
set_option maxRecDepth 100000 in
theorem xcw_217 : lw_tbl[836]? = some (xcw 217) := rfl
set_option maxRecDepth 100000 in
theorem xcw_218 : lw_tbl[869]? = some (xcw 218) := rfl
set_option maxRecDepth 100000 in
theorem xcw_219 : lw_tbl[881]? = some (xcw 219) := rfl
set_option maxRecDepth 100000 in
theorem xcw_220 : lw_tbl[888]? = some (xcw 220) := rfl
set_option maxRecDepth 100000 in
theorem xcw_221 : lw_tbl[895]? = some (xcw 221) := rfl
set_option maxRecDepth 100000 in
theorem xcw_222 : lw_tbl[906]? = some (xcw 222) := rfl
set_option maxRecDepth 100000 in
theorem xcw_223 : lw_tbl[913]? = some (xcw 223) := rfl
theorem xcw_all : xAll (fun j => xcw j ∈ lw_tbl) 224 := ⟨List.mem_of_getElem? xcw_223, List.mem_of_getElem? xcw_222, List.mem_of_getElem? xcw_221, List.mem_of_getElem? xcw_220, List.mem_of_getElem? xcw_219, List.mem_of_getElem? xcw_218, List.mem_of_getElem? xcw_217, List.mem_of_getElem? xcw_216, List.mem_of_getElem? xcw_215, List.mem_of_getElem? xcw_214, List.mem_of_getElem? xcw_213, List.mem_of_getElem? xcw_212, List.mem_of_getElem? xcw_211, List.mem_of_getElem? xcw_210, List.mem_of_getElem? xcw_209, List.mem_of_getElem? xcw_208, List.mem_of_getElem? xcw_207, List.mem_of_getElem? xcw_206, List.mem_of_getElem? xcw_205, List.mem_of_getElem? xcw_204, List.mem_of_getElem? xcw_203, List.mem_of_getElem? xcw_202, List.mem_of_getElem? xcw_201, List.mem_of_getElem? xcw_200, List.mem_of_getElem? xcw_199, List.mem_of_getElem? xcw_198, List.mem_of_getElem? xcw_197, List.mem_of_getElem? xcw_196, List.mem_of_getElem? xcw_195, List.mem_of_getElem? xcw_194, List.mem_of_getElem? xcw_193, List.mem_of_getElem? xcw_192, List.mem_of_getElem? xcw_191, List.mem_of_getElem? xcw_190, List.mem_of_getElem? xcw_189, List.mem_of_getElem? xcw_188, List.mem_of_getElem? xcw_187, List.mem_of_getElem? xcw_186, List.mem_of_getElem? xcw_185, List.mem_of_getElem? xcw_184, List.mem_of_getElem? xcw_183, List.mem_of_getElem? xcw_182, List.mem_of_getElem? xcw_181, List.mem_of_getElem? xcw_180, List.mem_of_getElem? xcw_179, List.mem_of_getElem? xcw_178, List.mem_of_getElem? xcw_177, List.mem_of_getElem? xcw_176, List.mem_of_getElem? xcw_175, List.mem_of_getElem? xcw_174, List.mem_of_getElem? xcw_173, List.mem_of_getElem? xcw_172, List.mem_of_getElem? xcw_171, List.mem_of_getElem? xcw_170, List.mem_of_getElem? xcw_169, List.mem_of_getElem? xcw_168, List.mem_of_getElem? xcw_167, List.mem_of_getElem? xcw_166, List.mem_of_getElem? xcw_165, List.mem_of_getElem? xcw_164, List.mem_of_getElem? xcw_163, List.mem_of_getElem? xcw_162, List.mem_of_getElem? xcw_161, List.mem_of_getElem? xcw_160, List.mem_of_getElem? xcw_159, List.mem_of_getElem? xcw_158, List.mem_of_getElem? xcw_157, List.mem_of_getElem? xcw_156, List.mem_of_getElem? xcw_155, List.mem_of_getElem? xcw_154, List.mem_of_getElem? xcw_153, List.mem_of_getElem? xcw_152, List.mem_of_getElem? xcw_151, List.mem_of_getElem? xcw_150, List.mem_of_getElem? xcw_149, List.mem_of_getElem? xcw_148, List.mem_of_getElem? xcw_147, List.mem_of_getElem? xcw_146, List.mem_of_getElem? xcw_145, List.mem_of_getElem? xcw_144, List.mem_of_getElem? xcw_143, List.mem_of_getElem? xcw_142, List.mem_of_getElem? xcw_141, List.mem_of_getElem? xcw_140, List.mem_of_getElem? xcw_139, List.mem_of_getElem? xcw_138, List.mem_of_getElem? xcw_137, List.mem_of_getElem? xcw_136, List.mem_of_getElem? xcw_135, List.mem_of_getElem? xcw_134, List.mem_of_getElem? xcw_133, List.mem_of_getElem? xcw_132, List.mem_of_getElem? xcw_131, List.mem_of_getElem? xcw_130, List.mem_of_getElem? xcw_129, List.mem_of_getElem? xcw_128, List.mem_of_getElem? xcw_127, List.mem_of_getElem? xcw_126, List.mem_of_getElem? xcw_125, List.mem_of_getElem? xcw_124, List.mem_of_getElem? xcw_123, List.mem_of_getElem? xcw_122, List.mem_of_getElem? xcw_121, List.mem_of_getElem? xcw_120, List.mem_of_getElem? xcw_119, List.mem_of_getElem? xcw_118, List.mem_of_getElem? xcw_117, List.mem_of_getElem? xcw_116, List.mem_of_getElem? xcw_115, List.mem_of_getElem? xcw_114, List.mem_of_getElem? xcw_113, List.mem_of_getElem? xcw_112, List.mem_of_getElem? xcw_111, List.mem_of_getElem? xcw_110, List.mem_of_getElem? xcw_109, List.mem_of_getElem? xcw_108, List.mem_of_getElem? xcw_107, List.mem_of_getElem? xcw_106, List.mem_of_getElem? xcw_105, List.mem_of_getElem? xcw_104, List.mem_of_getElem? xcw_103, List.mem_of_getElem? xcw_102, List.mem_of_getElem? xcw_101, List.mem_of_getElem? xcw_100, List.mem_of_getElem? xcw_99, List.mem_of_getElem? xcw_98, List.mem_of_getElem? xcw_97, List.mem_of_getElem? xcw_96, List.mem_of_getElem? xcw_95, List.mem_of_getElem? xcw_94, List.mem_of_getElem? xcw_93, List.mem_of_getElem? xcw_92, List.mem_of_getElem? xcw_91, List.mem_of_getElem? xcw_90, List.mem_of_getElem? xcw_89, List.mem_of_getElem? xcw_88, List.mem_of_getElem? xcw_87, List.mem_of_getElem? xcw_86, List.mem_of_getElem? xcw_85, List.mem_of_getElem? xcw_84, List.mem_of_getElem? xcw_83, List.mem_of_getElem? xcw_82, List.mem_of_getElem? xcw_81, List.mem_of_getElem? xcw_80, List.mem_of_getElem? xcw_79, List.mem_of_getElem? xcw_78, List.mem_of_getElem? xcw_77, List.mem_of_getElem? xcw_76, List.mem_of_getElem? xcw_75, List.mem_of_getElem? xcw_74, List.mem_of_getElem? xcw_73, List.mem_of_getElem? xcw_72, List.mem_of_getElem? xcw_71, List.mem_of_getElem? xcw_70, List.mem_of_getElem? xcw_69, List.mem_of_getElem? xcw_68, List.mem_of_getElem? xcw_67, List.mem_of_getElem? xcw_66, List.mem_of_getElem? xcw_65, List.mem_of_getElem? xcw_64, List.mem_of_getElem? xcw_63, List.mem_of_getElem? xcw_62, List.mem_of_getElem? xcw_61, List.mem_of_getElem? xcw_60, List.mem_of_getElem? xcw_59, List.mem_of_getElem? xcw_58, List.mem_of_getElem? xcw_57, List.mem_of_getElem? xcw_56, List.mem_of_getElem? xcw_55, List.mem_of_getElem? xcw_54, List.mem_of_getElem? xcw_53, List.mem_of_getElem? xcw_52, List.mem_of_getElem? xcw_51, List.mem_of_getElem? xcw_50, List.mem_of_getElem? xcw_49, List.mem_of_getElem? xcw_48, List.mem_of_getElem? xcw_47, List.mem_of_getElem? xcw_46, List.mem_of_getElem? xcw_45, List.mem_of_getElem? xcw_44, List.mem_of_getElem? xcw_43, List.mem_of_getElem? xcw_42, List.mem_of_getElem? xcw_41, List.mem_of_getElem? xcw_40, List.mem_of_getElem? xcw_39, List.mem_of_getElem? xcw_38, List.mem_of_getElem? xcw_37, List.mem_of_getElem? xcw_36, List.mem_of_getElem? xcw_35, List.mem_of_getElem? xcw_34, List.mem_of_getElem? xcw_33, List.mem_of_getElem? xcw_32, List.mem_of_getElem? xcw_31, List.mem_of_getElem? xcw_30, List.mem_of_getElem? xcw_29, List.mem_of_getElem? xcw_28, List.mem_of_getElem? xcw_27, List.mem_of_getElem? xcw_26, List.mem_of_getElem? xcw_25, List.mem_of_getElem? xcw_24, List.mem_of_getElem? xcw_23, List.mem_of_getElem? xcw_22, List.mem_of_getElem? xcw_21, List.mem_of_getElem? xcw_20, List.mem_of_getElem? xcw_19, List.mem_of_getElem? xcw_18, List.mem_of_getElem? xcw_17, List.mem_of_getElem? xcw_16, List.mem_of_getElem? xcw_15, List.mem_of_getElem? xcw_14, List.mem_of_getElem? xcw_13, List.mem_of_getElem? xcw_12, List.mem_of_getElem? xcw_11, List.mem_of_getElem? xcw_10, List.mem_of_getElem? xcw_9, List.mem_of_getElem? xcw_8, List.mem_of_getElem? xcw_7, List.mem_of_getElem? xcw_6, List.mem_of_getElem? xcw_5, List.mem_of_getElem? xcw_4, List.mem_of_getElem? xcw_3, List.mem_of_getElem? xcw_2, List.mem_of_getElem? xcw_1, List.mem_of_getElem? xcw_0, trivial⟩
theorem xcw_in (j : Nat) (h : j + 1 < xNM) : xcw j ∈ lw_tbl := xAll_get xcw_all j (by unfold xNM at h; omega)
theorem xci_ok : ∀ j, j < 224 → lw_tbl[xcip.getD j 0]? = some (.initialized (xy j).cls) := by decide +kernel
theorem xci_in (j : Nat) (h : j + 1 < xNM) : Cond.initialized (xy j).cls ∈ lw_tbl := List.mem_of_getElem? (xci_ok j (by unfold xNM at h; omega))
theorem xcw_ok2 : ∀ j, j < 224 → plainName (xy j).cls = true ∧ ((xy j).cls ≠ "java/lang/invoke/MethodHandle" ∧ (xy j).cls ≠ "java/lang/invoke/VarHandle") ∧ xml j ≤ 41 := by decide +kernel
theorem xcw_ok3 : ∀ j, j < 224 → (parseMethodDescriptor (xy j).desc).map (fun d => d.parameters.length) = some (xn j) := by decide +kernel
theorem xMMp_ok : ∀ q ∈ xMMp, lw_tbl[q.2.2.2]? = some (.methodLink (xcn q.1) q.2.1 (match q.2.2.1 with
  | 1 => Lib.Math.max.name
  | 2 => Lib.Math.min.name
  | 3 => Lib.MathLoose.max_long.x
  | _ => Lib.MathLoose.min_long.x)) := by decide +kernel
set_option maxRecDepth 100000 in
theorem xmm_s1 : lw_tbl[192]? = some (.static Lib.Math.max.name) := rfl
set_option maxRecDepth 100000 in
theorem xmm_c1 : lw_tbl[193]? = some (.code Lib.Math.max.name Lib.Math.max.code 2 (some .int)) := rfl
set_option maxRecDepth 100000 in
theorem xmm_s2 : lw_tbl[442]? = some (.static Lib.Math.min.name) := rfl
set_option maxRecDepth 100000 in
theorem xmm_c2 : lw_tbl[443]? = some (.code Lib.Math.min.name Lib.Math.min.code 2 (some .int)) := rfl
set_option maxRecDepth 100000 in
theorem xmm_s3 : lw_tbl[848]? = some (.static Lib.MathLoose.max_long.x) := rfl
set_option maxRecDepth 100000 in
theorem xmm_c3 : lw_tbl[849]? = some (.code Lib.MathLoose.max_long.x Lib.MathLoose.max_long.code 4 (some .long)) := rfl
set_option maxRecDepth 100000 in
theorem xmm_s4 : lw_tbl[856]? = some (.static Lib.MathLoose.min_long.x) := rfl
set_option maxRecDepth 100000 in
theorem xmm_c4 : lw_tbl[857]? = some (.code Lib.MathLoose.min_long.x Lib.MathLoose.min_long.code 4 (some .long)) := rfl
set_option maxRecDepth 100000 in
theorem xmm_i : lw_tbl[85]? = some (.initialized "java/lang/Math") := rfl
set_option maxRecDepth 100000 in
theorem xOI_ok : ∀ q ∈ xOIp, lw_tbl[q.2.2]? = some (.methodLink (xcn q.1) q.2.1 objectInit) := by decide +kernel
theorem xOI_i : lw_tbl[104]? = some (.instanceMethod objectInit) := rfl
theorem xOI_c : lw_tbl[105]? = some (.code objectInit ⟨#[0xb1]⟩ 1 none) := rfl
theorem xOI_eq : xOI = xOIp.map (fun q => (q.1, q.2.1)) := by decide +kernel
theorem xNS_ok : ∀ q ∈ xNSp, lw_tbl[q.2.2.2]? = some (.instanceMethod (xy q.2.2.1)) ∧ (xy q.2.2.1).name = "<init>" ∧ xr q.2.2.1 = none ∧ q.2.2.1 + 1 < xNM ∧ xhr q.2.2.1 = [] := by decide +kernel
theorem xNS_eq : xNS = xNSp.map (fun q => (q.1, q.2.1, q.2.2.1)) := by decide +kernel
set_option maxRecDepth 100000 in
theorem xAC_l : lw_tbl[444]? = some (.methodLink (xcn 9) 150 arraycopyName) := rfl
set_option maxRecDepth 100000 in
theorem xAC_n : lw_tbl[446]? = some (.native arraycopyName) := rfl
set_option maxRecDepth 100000 in
theorem xAC_s : lw_tbl[445]? = some (.static arraycopyName) := rfl
set_option maxRecDepth 100000 in
theorem xAC_i : lw_tbl[95]? = some (.initialized "java/lang/System") := rfl
