def lw_good : List Cond := lw_tbl.filter goodWord
theorem good_in {w : Cond} (h : w ∈ lw_tbl) (g : goodWord w = true) : w ∈ lw_good := List.mem_filter.mpr ⟨h, g⟩
def clT (ci : Nat) : vw_C := classes.getD ci ("", TX0, 0)
def FLs : List (Nat × Nat × Nat × Nat) := [(0, 9, 0, 0), (0, 15, 0, 1), (0, 18, 0, 2), (0, 21, 0, 3), (0, 24, 0, 5), (0, 28, 0, 4), (1, 7, 1, 0), (1, 13, 1, 1), (1, 16, 1, 2), (1, 19, 1, 3), (1, 22, 1, 4), (2, 7, 2, 0), (2, 13, 2, 1), (2, 16, 2, 2), (2, 19, 2, 3), (2, 27, 0, 4), (3, 9, 3, 0), (3, 19, 4, 0), (3, 25, 3, 1), (3, 28, 4, 1), (3, 31, 3, 2), (3, 34, 4, 3), (3, 37, 3, 3), (3, 40, 3, 5), (3, 43, 3, 8), (3, 50, 3, 4), (3, 53, 3, 6), (3, 56, 3, 7), (4, 9, 4, 0), (4, 15, 4, 1), (4, 18, 4, 2), (4, 21, 4, 3), (4, 24, 4, 4), (5, 9, 5, 0), (5, 15, 5, 1), (5, 24, 5, 2), (5, 28, 5, 3), (5, 31, 5, 4), (5, 35, 5, 5), (5, 41, 8, 1), (5, 46, 8, 0), (6, 9, 6, 0), (6, 18, 6, 1), (6, 24, 6, 2), (6, 33, 6, 3), (6, 36, 6, 4), (6, 39, 6, 5), (6, 42, 6, 6), (6, 45, 6, 7), (6, 48, 6, 8), (6, 52, 6, 9), (6, 55, 6, 10), (6, 58, 6, 11), (6, 61, 6, 12), (6, 71, 3, 0), (6, 78, 3, 4), (6, 108, 3, 1), (6, 114, 3, 2), (6, 126, 3, 7), (6, 129, 3, 5), (6, 140, 3, 3), (7, 9, 7, 0), (7, 15, 7, 1), (7, 19, 7, 2), (7, 22, 7, 3), (8, 9, 8, 0), (8, 15, 8, 1), (9, 9, 9, 0), (9, 18, 9, 8), (9, 22, 9, 10), (9, 28, 9, 2), (9, 37, 9, 4), (9, 44, 9, 6), (9, 49, 9, 1), (9, 52, 9, 3), (9, 55, 9, 5), (9, 58, 9, 7), (9, 61, 9, 9), (9, 81, 1, 4), (9, 85, 1, 1), (9, 95, 5, 3), (9, 104, 6, 1), (9, 117, 6, 4), (9, 143, 1, 0), (9, 146, 6, 6), (9, 155, 1, 2), (9, 158, 1, 3), (9, 161, 6, 9), (9, 164, 6, 10), (9, 167, 3, 0), (9, 170, 6, 8), (9, 173, 6, 0), (9, 181, 3, 6), (9, 190, 6, 11), (9, 199, 3, 5), (9, 202, 3, 8), (9, 206, 6, 5), (9, 225, 6, 12), (9, 232, 2, 0), (9, 233, 2, 1), (9, 241, 6, 3), (9, 252, 3, 4), (9, 255, 3, 7), (9, 265, 3, 3), (9, 268, 6, 7), (9, 304, 6, 2), (10, 15, 10, 0), (10, 24, 10, 1), (10, 31, 10, 2), (10, 35, 10, 4), (10, 41, 10, 3), (10, 66, 7, 3), (10, 77, 7, 0), (10, 81, 7, 1), (10, 95, 0, 0), (10, 121, 8, 1), (10, 135, 9, 8), (10, 142, 5, 3), (10, 155, 6, 0), (10, 162, 6, 8), (10, 181, 1, 2), (10, 186, 9, 1), (10, 223, 2, 1), (10, 235, 9, 7), (10, 244, 6, 3), (10, 259, 6, 10), (10, 262, 6, 11), (10, 265, 6, 12), (10, 272, 3, 0), (10, 277, 3, 4), (10, 280, 3, 5), (10, 283, 3, 6), (10, 286, 3, 7), (10, 292, 1, 1), (10, 293, 1, 4), (10, 296, 1, 3), (10, 302, 9, 0), (10, 306, 4, 0), (10, 309, 4, 1), (10, 312, 4, 2), (10, 315, 4, 3), (10, 321, 4, 4), (10, 323, 2, 0), (10, 324, 2, 2), (10, 330, 0, 1), (10, 334, 6, 1), (10, 356, 9, 9), (10, 371, 9, 10), (10, 374, 10, 5), (10, 380, 9, 3), (10, 383, 9, 5), (10, 395, 2, 3), (10, 398, 0, 5), (11, 9, 11, 0), (11, 13, 11, 1), (11, 16, 11, 2), (11, 19, 11, 4), (11, 22, 11, 5), (11, 25, 11, 6), (11, 28, 11, 9), (11, 31, 11, 11), (11, 34, 11, 13), (11, 37, 11, 14), (11, 40, 11, 15), (11, 44, 11, 16), (11, 79, 11, 7), (11, 83, 11, 8), (11, 86, 11, 10), (11, 227, 11, 12), (11, 256, 11, 3)]
theorem FLs_in : ∀ w ∈ FLs.map (fun q => Cond.fieldLink (ownS q.1) q.2.1 ((clT q.2.2.1).2.1 q.2.2.2).1 ((clT q.2.2.1).2.1 q.2.2.2).2.1 ((clT q.2.2.1).2.1 q.2.2.2).2.2.1), w ∈ lw_tbl := inBy [692, 694, 696, 697, 700, 698, 289, 291, 294, 297, 300, 321, 324, 327, 329, 699, 175, 104, 179, 107, 181, 112, 183, 190, 201, 186, 194, 197, 103, 106, 109, 111, 114, 138, 139, 140, 141, 144, 145, 391, 389, 222, 225, 228, 230, 233, 235, 237, 239, 241, 244, 246, 249, 252, 176, 187, 180, 182, 198, 192, 184, 407, 409, 411, 412, 388, 390, 340, 353, 357, 344, 347, 350, 342, 345, 348, 351, 355, 301, 292, 142, 226, 234, 290, 238, 295, 298, 245, 247, 177, 242, 224, 195, 250, 191, 202, 236, 253, 322, 325, 231, 188, 199, 185, 240, 229, 424, 425, 426, 428, 427, 413, 408, 410, 693, 392, 354, 143, 223, 243, 296, 343, 326, 352, 232, 248, 251, 254, 178, 189, 193, 196, 200, 293, 302, 299, 341, 105, 108, 110, 113, 115, 323, 328, 695, 227, 356, 358, 429, 346, 349, 330, 701, 1116, 1117, 1118, 1120, 1121, 1122, 1125, 1127, 1129, 1130, 1131, 1132, 1123, 1124, 1126, 1128, 1119] (by decide +kernel)
theorem FLs_mem (q : Nat × Nat × Nat × Nat) (h : FLs.contains q = true) : (Cond.fieldLink (ownS q.1) q.2.1 ((clT q.2.2.1).2.1 q.2.2.2).1 ((clT q.2.2.1).2.1 q.2.2.2).2.1 ((clT q.2.2.1).2.1 q.2.2.2).2.2.1) ∈ lw_tbl := FLs_in _ (List.mem_map.mpr ⟨q, by simpa using h, rfl⟩)
def myx (j : Nat) : MethodName := bif Nat.beq j 900 then objectInit else bif Nat.beq j 901 then arraycopyName else bif Nat.beq j 902 then Lib.Math.max.name else bif Nat.beq j 903 then Lib.Math.min.name else my j
def MLs : List (Nat × Nat × Nat) := [(0, 3, 900), (1, 1, 900), (2, 1, 900), (2, 23, 8), (3, 3, 900), (3, 47, 15), (4, 3, 900), (5, 3, 900), (5, 18, 901), (5, 38, 23), (5, 49, 24), (5, 53, 25), (5, 57, 26), (5, 65, 30), (5, 68, 29), (5, 72, 31), (6, 3, 900), (6, 17, 20), (6, 29, 21), (6, 64, 13), (6, 67, 35), (6, 74, 12), (6, 81, 38), (6, 85, 41), (6, 89, 36), (6, 93, 14), (6, 101, 15), (6, 104, 47), (6, 111, 46), (6, 120, 52), (6, 123, 48), (6, 133, 58), (6, 136, 54), (6, 143, 902), (6, 149, 57), (6, 152, 55), (6, 155, 903), (7, 3, 900), (7, 26, 61), (8, 3, 900), (9, 3, 900), (9, 17, 20), (9, 32, 32), (9, 41, 3), (9, 64, 21), (9, 68, 34), (9, 71, 5), (9, 74, 9), (9, 77, 70), (9, 88, 69), (9, 92, 4), (9, 98, 19), (9, 107, 28), (9, 111, 35), (9, 120, 0), (9, 123, 85), (9, 127, 37), (9, 131, 48), (9, 135, 36), (9, 139, 79), (9, 149, 17), (9, 174, 80), (9, 177, 6), (9, 184, 82), (9, 187, 38), (9, 193, 903), (9, 209, 84), (9, 213, 58), (9, 216, 16), (9, 219, 86), (9, 222, 8), (9, 228, 73), (9, 234, 45), (9, 237, 100), (9, 244, 91), (9, 258, 83), (9, 262, 15), (9, 271, 96), (9, 274, 93), (9, 277, 94), (9, 280, 95), (9, 284, 76), (9, 288, 78), (9, 291, 72), (9, 294, 43), (9, 297, 81), (9, 301, 41), (9, 308, 55), (10, 1, 900), (10, 11, 18), (10, 12, 67), (10, 23, 65), (10, 30, 20), (10, 45, 59), (10, 46, 151), (10, 50, 154), (10, 54, 155), (10, 58, 148), (10, 62, 62), (10, 70, 60), (10, 74, 64), (10, 85, 157), (10, 89, 901), (10, 100, 61), (10, 103, 153), (10, 107, 63), (10, 114, 1), (10, 118, 2), (10, 124, 66), (10, 128, 22), (10, 132, 149), (10, 138, 21), (10, 145, 74), (10, 149, 33), (10, 158, 69), (10, 166, 156), (10, 170, 75), (10, 173, 71), (10, 177, 89), (10, 189, 76), (10, 193, 78), (10, 197, 72), (10, 200, 42), (10, 204, 81), (10, 208, 44), (10, 211, 83), (10, 215, 90), (10, 219, 73), (10, 228, 35), (10, 231, 87), (10, 238, 88), (10, 241, 40), (10, 247, 39), (10, 250, 49), (10, 253, 97), (10, 256, 98), (10, 268, 36), (10, 289, 70), (10, 299, 43), (10, 318, 99), (10, 327, 10), (10, 331, 77), (10, 337, 28), (10, 341, 27), (10, 344, 48), (10, 347, 79), (10, 350, 50), (10, 353, 51), (10, 357, 56), (10, 361, 101), (10, 364, 53), (10, 368, 92), (10, 377, 68), (10, 386, 100), (10, 389, 152), (10, 392, 150), (11, 1, 900), (11, 47, 159), (11, 51, 166), (11, 55, 165), (11, 59, 162), (11, 62, 163), (11, 66, 169), (11, 70, 168), (11, 75, 160), (11, 89, 174), (11, 96, 175), (11, 100, 176), (11, 112, 179), (11, 116, 180), (11, 119, 181), (11, 122, 164), (11, 125, 170), (11, 129, 187), (11, 132, 188), (11, 135, 185), (11, 139, 189), (11, 142, 903), (11, 151, 193), (11, 154, 186), (11, 157, 171), (11, 160, 194), (11, 163, 167), (11, 166, 195), (11, 169, 196), (11, 172, 197), (11, 175, 191), (11, 179, 190), (11, 183, 201), (11, 186, 202), (11, 189, 200), (11, 192, 203), (11, 197, 210), (11, 200, 211), (11, 203, 214), (11, 208, 217), (11, 211, 218), (11, 214, 219), (11, 220, 226), (11, 223, 161), (11, 230, 230), (11, 233, 234), (11, 238, 236), (11, 244, 242), (11, 248, 245), (11, 253, 246), (11, 260, 251), (11, 264, 252), (12, 9, 102), (12, 12, 158), (12, 13, 103), (12, 17, 235), (12, 20, 104), (12, 24, 237), (12, 25, 105), (12, 29, 238), (12, 30, 106), (12, 34, 239), (12, 35, 107), (12, 39, 240), (12, 40, 108), (12, 43, 241), (12, 44, 109), (12, 48, 243), (12, 49, 110), (12, 52, 172), (12, 53, 111), (12, 57, 173), (12, 58, 112), (12, 61, 177), (12, 62, 113), (12, 66, 178), (12, 67, 114), (12, 70, 206), (12, 71, 115), (12, 74, 207), (12, 75, 116), (12, 78, 208), (12, 79, 117), (12, 82, 209), (12, 83, 118), (12, 86, 192), (12, 87, 119), (12, 90, 198), (12, 91, 120), (12, 94, 199), (12, 95, 121), (12, 98, 204), (12, 99, 122), (12, 102, 205), (12, 103, 123), (12, 106, 212), (12, 107, 124), (12, 110, 213), (12, 111, 125), (12, 114, 215), (12, 115, 126), (12, 118, 216), (12, 119, 127), (12, 122, 220), (12, 123, 128), (12, 126, 221), (12, 127, 129), (12, 130, 222), (12, 131, 130), (12, 134, 223), (12, 135, 131), (12, 138, 224), (12, 139, 132), (12, 142, 225), (12, 143, 133), (12, 146, 227), (12, 147, 134), (12, 150, 182), (12, 151, 135), (12, 154, 183), (12, 155, 136), (12, 158, 184), (12, 159, 137), (12, 162, 228), (12, 163, 138), (12, 166, 229), (12, 167, 139), (12, 170, 231), (12, 171, 140), (12, 174, 232), (12, 175, 141), (12, 178, 233), (12, 179, 142), (12, 182, 244), (12, 183, 143), (12, 186, 247), (12, 187, 144), (12, 190, 248), (12, 191, 145), (12, 194, 249), (12, 195, 146), (12, 198, 250), (12, 199, 147), (12, 202, 253)]
theorem MLs_in : ∀ w ∈ MLs.map (fun q => Cond.methodLink (ownS q.1) q.2.1 (myx q.2.2)), w ∈ lw_tbl := inBy [691, 288, 320, 1092, 174, 737, 102, 137, 583, 558, 562, 566, 571, 670, 674, 678, 165, 167, 596, 1080, 731, 732, 888, 794, 754, 641, 645, 758, 750, 988, 992, 1010, 1006, 836, 1002, 1011, 835, 406, 520, 387, 131, 134, 162, 285, 1075, 1076, 1084, 1088, 628, 636, 616, 661, 666, 682, 688, 715, 727, 746, 761, 762, 774, 766, 770, 802, 809, 806, 826, 830, 839, 719, 723, 871, 637, 851, 855, 859, 860, 1041, 1046, 1051, 1056, 1050, 1055, 1060, 1061, 1062, 935, 1024, 92, 99, 128, 384, 399, 403, 447, 451, 454, 457, 461, 469, 473, 478, 485, 500, 504, 516, 527, 533, 541, 554, 575, 579, 588, 592, 601, 605, 612, 624, 632, 657, 742, 786, 790, 798, 813, 822, 847, 508, 866, 867, 876, 884, 893, 897, 901, 905, 913, 918, 923, 931, 512, 948, 956, 961, 969, 970, 975, 983, 997, 1020, 1029, 1037, 1071, 1101, 1102, 1106, 1115, 1173, 1308, 1312, 1226, 1210, 1268, 1296, 1176, 1192, 1188, 1198, 1222, 1230, 1218, 1238, 1272, 1256, 1260, 1332, 1357, 1340, 1252, 1264, 1292, 1288, 1304, 1284, 1300, 1280, 1336, 1353, 1324, 1328, 1341, 1349, 1386, 1382, 1394, 1411, 1415, 1419, 1448, 1468, 1464, 1483, 1491, 1515, 1527, 1532, 1552, 1556, 89, 1112, 443, 1479, 465, 1487, 481, 1494, 488, 1498, 492, 1502, 496, 1506, 521, 1510, 537, 1168, 546, 1180, 550, 1184, 584, 1202, 597, 1361, 608, 1365, 620, 1369, 649, 1373, 653, 1246, 738, 1276, 778, 1316, 782, 1320, 818, 1345, 843, 1378, 862, 1390, 872, 1398, 880, 1402, 889, 1406, 909, 1423, 914, 1428, 919, 1432, 927, 1436, 936, 1440, 940, 1444, 944, 1214, 952, 1234, 957, 1242, 965, 1452, 971, 1456, 979, 1460, 993, 1471, 1016, 1475, 1025, 1518, 1033, 1522, 1063, 1536, 1067, 1540, 1093, 1544, 1097, 1548] (by decide +kernel)
theorem MLs_mem (q : Nat × Nat × Nat) (h : MLs.contains q = true) : (Cond.methodLink (ownS q.1) q.2.1 (myx q.2.2)) ∈ lw_tbl := MLs_in _ (List.mem_map.mpr ⟨q, by simpa using h, rfl⟩)
def MNs : List (Nat × Nat × Nat) := [(0, 35, 154), (3, 15, 154), (4, 27, 154), (5, 61, 154), (6, 28, 11), (6, 97, 156), (6, 117, 154), (7, 29, 155), (8, 19, 154), (9, 48, 7), (9, 248, 156)]
theorem MNs_in : ∀ w ∈ MNs.map (fun q => Cond.methodLinkNest (ownS q.1) q.2.1 (myx q.2.2) "CreditBroker"), w ∈ lw_tbl := inBy [532, 736, 665, 570, 171, 817, 987, 477, 545, 317, 861] (by decide +kernel)
theorem MNs_mem (q : Nat × Nat × Nat) (h : MNs.contains q = true) : (Cond.methodLinkNest (ownS q.1) q.2.1 (myx q.2.2) "CreditBroker") ∈ lw_tbl := MNs_in _ (List.mem_map.mpr ⟨q, by simpa using h, rfl⟩)
def CLs : List (Nat × Nat × Nat) := [(6, 15, 5), (6, 22, 3), (9, 15, 5), (9, 26, 6), (9, 35, 1), (9, 42, 2), (9, 115, 0), (10, 7, 9), (10, 9, 4), (10, 21, 8), (10, 28, 5), (10, 39, 7), (12, 7, 10), (12, 10, 11)]
theorem CLs_in : ∀ w ∈ CLs.map (fun q => Cond.classLink (ownS q.1) q.2.1 (clT q.2.2).1), w ∈ lw_tbl := inBy [166, 168, 132, 159, 282, 314, 686, 95, 97, 382, 398, 400, 87, 1110] (by decide +kernel)
theorem CLs_mem (q : Nat × Nat × Nat) (h : CLs.contains q = true) : (Cond.classLink (ownS q.1) q.2.1 (clT q.2.2).1) ∈ lw_tbl := CLs_in _ (List.mem_map.mpr ⟨q, by simpa using h, rfl⟩)
def KIs : List (Nat × Nat × Int32) := [(6, 132, (nI 1000000000)), (9, 300, (nI 1103515245)), (10, 360, (nI 1000000000)), (11, 247, (nI 1103515245))]
theorem KIs_in : ∀ w ∈ KIs.map (fun q => Cond.constant (ownS q.1) q.2.1 q.2.2), w ∈ lw_tbl := inBy [1001, 1045, 1015, 1531] (by decide +kernel)
theorem KIs_mem (q : Nat × Nat × Int32) (h : KIs.contains q = true) : (Cond.constant (ownS q.1) q.2.1 q.2.2) ∈ lw_tbl := KIs_in _ (List.mem_map.mpr ⟨q, by simpa using h, rfl⟩)
def KLs : List (Nat × Nat × Int64) := [(11, 73, (lN 255)), (11, 92, (lN 97)), (11, 94, (lN 122)), (11, 104, (lN 20)), (11, 106, (lN 5)), (11, 108, (lN 99)), (11, 110, (lN 999)), (11, 147, (lN 7)), (11, 149, (lN 3)), (11, 195, (lN 9)), (11, 206, (lN 10)), (11, 218, (lN 4)), (11, 236, (lN 40)), (11, 242, (lN 6)), (11, 251, (lN 60)), (11, 267, (lN 12)), (11, 269, (lN 16)), (12, 18, (lN 4294967295))]
theorem KLs_in : ∀ w ∈ KLs.map (fun q => Cond.constantLong (ownS q.1) q.2.1 q.2.2), w ∈ lw_tbl := inBy [1172, 1196, 1197, 1206, 1207, 1208, 1209, 1250, 1251, 1377, 1410, 1427, 1486, 1514, 1526, 1560, 1561, 1562] (by decide +kernel)
theorem KLs_mem (q : Nat × Nat × Int64) (h : KLs.contains q = true) : (Cond.constantLong (ownS q.1) q.2.1 q.2.2) ∈ lw_tbl := KLs_in _ (List.mem_map.mpr ⟨q, by simpa using h, rfl⟩)
def cdA (j : Nat) : Cond := Cond.code (my j) (mc j) (mt j).2.2.1 (mr j)
theorem in_tables_1_1 : ∀ w ∈ tables_1_1, w ∈ lw_tbl := fun _ h => List.mem_append_right _ (List.mem_append_left _ h)
theorem in_tables_1_2 : ∀ w ∈ tables_1_2, w ∈ lw_tbl := fun _ h => List.mem_append_right _ (List.mem_append_right _ (List.mem_append_left _ h))
theorem in_tables_1_3 : ∀ w ∈ tables_1_3, w ∈ lw_tbl := fun _ h => List.mem_append_right _ (List.mem_append_right _ (List.mem_append_right _ (List.mem_append_left _ h)))
theorem in_tables_1_4 : ∀ w ∈ tables_1_4, w ∈ lw_tbl := fun _ h => List.mem_append_right _ (List.mem_append_right _ (List.mem_append_right _ (List.mem_append_right _ (List.mem_append_left _ h))))
theorem in_tables_1_5 : ∀ w ∈ tables_1_5, w ∈ lw_tbl := fun _ h => List.mem_append_right _ (List.mem_append_right _ (List.mem_append_right _ (List.mem_append_right _ (List.mem_append_right _ (List.mem_append_left _ h)))))
theorem in_tables_1_6 : ∀ w ∈ tables_1_6, w ∈ lw_tbl := fun _ h => List.mem_append_right _ (List.mem_append_right _ (List.mem_append_right _ (List.mem_append_right _ (List.mem_append_right _ (List.mem_append_right _ (List.mem_append_left _ h))))))
theorem in_tables_1_7 : ∀ w ∈ tables_1_7, w ∈ lw_tbl := fun _ h => List.mem_append_right _ (List.mem_append_right _ (List.mem_append_right _ (List.mem_append_right _ (List.mem_append_right _ (List.mem_append_right _ (List.mem_append_right _ (h)))))))
set_option maxRecDepth 100000 in
theorem cdm0 : cdA 0 ∈ lw_tbl := in_tables_1_3 _ (List.mem_of_getElem? (i := 138) rfl)
set_option maxRecDepth 100000 in
theorem cdm1 : cdA 1 ∈ lw_tbl := in_tables_1_2 _ (List.mem_of_getElem? (i := 218) rfl)
set_option maxRecDepth 100000 in
theorem cdm2 : cdA 2 ∈ lw_tbl := in_tables_1_2 _ (List.mem_of_getElem? (i := 224) rfl)
set_option maxRecDepth 100000 in
theorem cdm3 : cdA 3 ∈ lw_tbl := in_tables_1_1 _ (List.mem_of_getElem? (i := 215) rfl)
set_option maxRecDepth 100000 in
theorem cdm4 : cdA 4 ∈ lw_tbl := in_tables_1_3 _ (List.mem_of_getElem? (i := 67) rfl)
set_option maxRecDepth 100000 in
theorem cdm5 : cdA 5 ∈ lw_tbl := in_tables_1_5 _ (List.mem_of_getElem? (i := 55) rfl)
set_option maxRecDepth 100000 in
theorem cdm6 : cdA 6 ∈ lw_tbl := in_tables_1_3 _ (List.mem_of_getElem? (i := 221) rfl)
set_option maxRecDepth 100000 in
theorem cdm7 : cdA 7 ∈ lw_tbl := in_tables_1_2 _ (List.mem_of_getElem? (i := 7) rfl)
set_option maxRecDepth 100000 in
theorem cdm8 : cdA 8 ∈ lw_tbl := in_tables_1_3 _ (List.mem_of_getElem? (i := 174) rfl)
set_option maxRecDepth 100000 in
theorem cdm9 : cdA 9 ∈ lw_tbl := in_tables_1_5 _ (List.mem_of_getElem? (i := 59) rfl)
set_option maxRecDepth 100000 in
theorem cdm10 : cdA 10 ∈ lw_tbl := in_tables_1_2 _ (List.mem_of_getElem? (i := 203) rfl)
set_option maxRecDepth 100000 in
theorem cdm11 : cdA 11 ∈ lw_tbl := in_tables_1_1 _ (List.mem_of_getElem? (i := 101) rfl)
set_option maxRecDepth 100000 in
theorem cdm12 : cdA 12 ∈ lw_tbl := in_tables_1_3 _ (List.mem_of_getElem? (i := 183) rfl)
set_option maxRecDepth 100000 in
theorem cdm13 : cdA 13 ∈ lw_tbl := in_tables_1_5 _ (List.mem_of_getElem? (i := 51) rfl)
set_option maxRecDepth 100000 in
theorem cdm14 : cdA 14 ∈ lw_tbl := in_tables_1_3 _ (List.mem_of_getElem? (i := 92) rfl)
set_option maxRecDepth 100000 in
theorem cdm15 : cdA 15 ∈ lw_tbl := in_tables_1_3 _ (List.mem_of_getElem? (i := 96) rfl)
set_option maxRecDepth 100000 in
theorem cdm16 : cdA 16 ∈ lw_tbl := in_tables_1_4 _ (List.mem_of_getElem? (i := 50) rfl)
set_option maxRecDepth 100000 in
theorem cdm17 : cdA 17 ∈ lw_tbl := in_tables_1_3 _ (List.mem_of_getElem? (i := 225) rfl)
set_option maxRecDepth 100000 in
theorem cdm18 : cdA 18 ∈ lw_tbl := in_tables_1_1 _ (List.mem_of_getElem? (i := 29) rfl)
set_option maxRecDepth 100000 in
theorem cdm19 : cdA 19 ∈ lw_tbl := in_tables_1_3 _ (List.mem_of_getElem? (i := 112) rfl)
set_option maxRecDepth 100000 in
theorem cdm20 : cdA 20 ∈ lw_tbl := in_tables_1_1 _ (List.mem_of_getElem? (i := 64) rfl)
set_option maxRecDepth 100000 in
theorem cdm21 : cdA 21 ∈ lw_tbl := in_tables_1_3 _ (List.mem_of_getElem? (i := 30) rfl)
set_option maxRecDepth 100000 in
theorem cdm22 : cdA 22 ∈ lw_tbl := in_tables_1_3 _ (List.mem_of_getElem? (i := 5) rfl)
set_option maxRecDepth 100000 in
theorem cdm23 : cdA 23 ∈ lw_tbl := in_tables_1_3 _ (List.mem_of_getElem? (i := 9) rfl)
set_option maxRecDepth 100000 in
theorem cdm24 : cdA 24 ∈ lw_tbl := in_tables_1_3 _ (List.mem_of_getElem? (i := 13) rfl)
set_option maxRecDepth 100000 in
theorem cdm25 : cdA 25 ∈ lw_tbl := in_tables_1_3 _ (List.mem_of_getElem? (i := 17) rfl)
set_option maxRecDepth 100000 in
theorem cdm26 : cdA 26 ∈ lw_tbl := in_tables_1_3 _ (List.mem_of_getElem? (i := 22) rfl)
set_option maxRecDepth 100000 in
theorem cdm27 : cdA 27 ∈ lw_tbl := in_tables_1_4 _ (List.mem_of_getElem? (i := 172) rfl)
set_option maxRecDepth 100000 in
theorem cdm28 : cdA 28 ∈ lw_tbl := in_tables_1_3 _ (List.mem_of_getElem? (i := 117) rfl)
set_option maxRecDepth 100000 in
theorem cdm29 : cdA 29 ∈ lw_tbl := in_tables_1_3 _ (List.mem_of_getElem? (i := 125) rfl)
set_option maxRecDepth 100000 in
theorem cdm30 : cdA 30 ∈ lw_tbl := in_tables_1_3 _ (List.mem_of_getElem? (i := 121) rfl)
set_option maxRecDepth 100000 in
theorem cdm31 : cdA 31 ∈ lw_tbl := in_tables_1_3 _ (List.mem_of_getElem? (i := 129) rfl)
set_option maxRecDepth 100000 in
theorem cdm32 : cdA 32 ∈ lw_tbl := in_tables_1_1 _ (List.mem_of_getElem? (i := 92) rfl)
set_option maxRecDepth 100000 in
theorem cdm33 : cdA 33 ∈ lw_tbl := in_tables_1_3 _ (List.mem_of_getElem? (i := 43) rfl)
set_option maxRecDepth 100000 in
theorem cdm34 : cdA 34 ∈ lw_tbl := in_tables_1_5 _ (List.mem_of_getElem? (i := 47) rfl)
set_option maxRecDepth 100000 in
theorem cdm35 : cdA 35 ∈ lw_tbl := in_tables_1_3 _ (List.mem_of_getElem? (i := 133) rfl)
set_option maxRecDepth 100000 in
theorem cdm36 : cdA 36 ∈ lw_tbl := in_tables_1_3 _ (List.mem_of_getElem? (i := 205) rfl)
set_option maxRecDepth 100000 in
theorem cdm37 : cdA 37 ∈ lw_tbl := in_tables_1_3 _ (List.mem_of_getElem? (i := 178) rfl)
set_option maxRecDepth 100000 in
theorem cdm38 : cdA 38 ∈ lw_tbl := in_tables_1_4 _ (List.mem_of_getElem? (i := 20) rfl)
set_option maxRecDepth 100000 in
theorem cdm39 : cdA 39 ∈ lw_tbl := in_tables_1_4 _ (List.mem_of_getElem? (i := 104) rfl)
set_option maxRecDepth 100000 in
theorem cdm40 : cdA 40 ∈ lw_tbl := in_tables_1_4 _ (List.mem_of_getElem? (i := 95) rfl)
set_option maxRecDepth 100000 in
theorem cdm41 : cdA 41 ∈ lw_tbl := in_tables_1_4 _ (List.mem_of_getElem? (i := 5) rfl)
set_option maxRecDepth 100000 in
theorem cdm42 : cdA 42 ∈ lw_tbl := in_tables_1_4 _ (List.mem_of_getElem? (i := 1) rfl)
set_option maxRecDepth 100000 in
theorem cdm43 : cdA 43 ∈ lw_tbl := in_tables_1_4 _ (List.mem_of_getElem? (i := 134) rfl)
set_option maxRecDepth 100000 in
theorem cdm44 : cdA 44 ∈ lw_tbl := in_tables_1_4 _ (List.mem_of_getElem? (i := 24) rfl)
set_option maxRecDepth 100000 in
theorem cdm45 : cdA 45 ∈ lw_tbl := in_tables_1_3 _ (List.mem_of_getElem? (i := 88) rfl)
set_option maxRecDepth 100000 in
theorem cdm46 : cdA 46 ∈ lw_tbl := in_tables_1_3 _ (List.mem_of_getElem? (i := 201) rfl)
set_option maxRecDepth 100000 in
theorem cdm47 : cdA 47 ∈ lw_tbl := in_tables_1_3 _ (List.mem_of_getElem? (i := 208) rfl)
set_option maxRecDepth 100000 in
theorem cdm48 : cdA 48 ∈ lw_tbl := in_tables_1_3 _ (List.mem_of_getElem? (i := 197) rfl)
set_option maxRecDepth 100000 in
theorem cdm49 : cdA 49 ∈ lw_tbl := in_tables_1_4 _ (List.mem_of_getElem? (i := 108) rfl)
set_option maxRecDepth 100000 in
theorem cdm50 : cdA 50 ∈ lw_tbl := in_tables_1_4 _ (List.mem_of_getElem? (i := 186) rfl)
set_option maxRecDepth 100000 in
theorem cdm51 : cdA 51 ∈ lw_tbl := in_tables_1_4 _ (List.mem_of_getElem? (i := 194) rfl)
set_option maxRecDepth 100000 in
theorem cdm52 : cdA 52 ∈ lw_tbl := in_tables_1_4 _ (List.mem_of_getElem? (i := 199) rfl)
set_option maxRecDepth 100000 in
theorem cdm53 : cdA 53 ∈ lw_tbl := in_tables_1_5 _ (List.mem_of_getElem? (i := 0) rfl)
set_option maxRecDepth 100000 in
theorem cdm54 : cdA 54 ∈ lw_tbl := in_tables_1_4 _ (List.mem_of_getElem? (i := 217) rfl)
set_option maxRecDepth 100000 in
theorem cdm55 : cdA 55 ∈ lw_tbl := in_tables_1_4 _ (List.mem_of_getElem? (i := 222) rfl)
set_option maxRecDepth 100000 in
theorem cdm56 : cdA 56 ∈ lw_tbl := in_tables_1_4 _ (List.mem_of_getElem? (i := 208) rfl)
set_option maxRecDepth 100000 in
theorem cdm57 : cdA 57 ∈ lw_tbl := in_tables_1_4 _ (List.mem_of_getElem? (i := 213) rfl)
set_option maxRecDepth 100000 in
theorem cdm58 : cdA 58 ∈ lw_tbl := in_tables_1_4 _ (List.mem_of_getElem? (i := 40) rfl)
set_option maxRecDepth 100000 in
theorem cdm59 : cdA 59 ∈ lw_tbl := in_tables_1_2 _ (List.mem_of_getElem? (i := 93) rfl)
set_option maxRecDepth 100000 in
theorem cdm60 : cdA 60 ∈ lw_tbl := in_tables_1_2 _ (List.mem_of_getElem? (i := 160) rfl)
set_option maxRecDepth 100000 in
theorem cdm61 : cdA 61 ∈ lw_tbl := in_tables_1_2 _ (List.mem_of_getElem? (i := 191) rfl)
set_option maxRecDepth 100000 in
theorem cdm62 : cdA 62 ∈ lw_tbl := in_tables_1_2 _ (List.mem_of_getElem? (i := 152) rfl)
set_option maxRecDepth 100000 in
theorem cdm63 : cdA 63 ∈ lw_tbl := in_tables_1_2 _ (List.mem_of_getElem? (i := 207) rfl)
set_option maxRecDepth 100000 in
theorem cdm64 : cdA 64 ∈ lw_tbl := in_tables_1_2 _ (List.mem_of_getElem? (i := 164) rfl)
set_option maxRecDepth 100000 in
theorem cdm65 : cdA 65 ∈ lw_tbl := in_tables_1_2 _ (List.mem_of_getElem? (i := 74) rfl)
set_option maxRecDepth 100000 in
theorem cdm66 : cdA 66 ∈ lw_tbl := in_tables_1_2 _ (List.mem_of_getElem? (i := 232) rfl)
set_option maxRecDepth 100000 in
theorem cdm67 : cdA 67 ∈ lw_tbl := in_tables_1_1 _ (List.mem_of_getElem? (i := 58) rfl)
set_option maxRecDepth 100000 in
theorem cdm68 : cdA 68 ∈ lw_tbl := in_tables_1_5 _ (List.mem_of_getElem? (i := 42) rfl)
set_option maxRecDepth 100000 in
theorem cdm69 : cdA 69 ∈ lw_tbl := in_tables_1_3 _ (List.mem_of_getElem? (i := 52) rfl)
set_option maxRecDepth 100000 in
theorem cdm70 : cdA 70 ∈ lw_tbl := in_tables_1_3 _ (List.mem_of_getElem? (i := 79) rfl)
set_option maxRecDepth 100000 in
theorem cdm71 : cdA 71 ∈ lw_tbl := in_tables_1_3 _ (List.mem_of_getElem? (i := 75) rfl)
set_option maxRecDepth 100000 in
theorem cdm72 : cdA 72 ∈ lw_tbl := in_tables_1_3 _ (List.mem_of_getElem? (i := 237) rfl)
set_option maxRecDepth 100000 in
theorem cdm73 : cdA 73 ∈ lw_tbl := in_tables_1_2 _ (List.mem_of_getElem? (i := 199) rfl)
set_option maxRecDepth 100000 in
theorem cdm74 : cdA 74 ∈ lw_tbl := in_tables_1_3 _ (List.mem_of_getElem? (i := 39) rfl)
set_option maxRecDepth 100000 in
theorem cdm75 : cdA 75 ∈ lw_tbl := in_tables_1_3 _ (List.mem_of_getElem? (i := 63) rfl)
set_option maxRecDepth 100000 in
theorem cdm76 : cdA 76 ∈ lw_tbl := in_tables_1_3 _ (List.mem_of_getElem? (i := 108) rfl)
set_option maxRecDepth 100000 in
theorem cdm77 : cdA 77 ∈ lw_tbl := in_tables_1_4 _ (List.mem_of_getElem? (i := 159) rfl)
set_option maxRecDepth 100000 in
theorem cdm78 : cdA 78 ∈ lw_tbl := in_tables_1_3 _ (List.mem_of_getElem? (i := 193) rfl)
set_option maxRecDepth 100000 in
theorem cdm79 : cdA 79 ∈ lw_tbl := in_tables_1_3 _ (List.mem_of_getElem? (i := 213) rfl)
set_option maxRecDepth 100000 in
theorem cdm80 : cdA 80 ∈ lw_tbl := in_tables_1_3 _ (List.mem_of_getElem? (i := 217) rfl)
set_option maxRecDepth 100000 in
theorem cdm81 : cdA 81 ∈ lw_tbl := in_tables_1_4 _ (List.mem_of_getElem? (i := 9) rfl)
set_option maxRecDepth 100000 in
theorem cdm82 : cdA 82 ∈ lw_tbl := in_tables_1_4 _ (List.mem_of_getElem? (i := 13) rfl)
set_option maxRecDepth 100000 in
theorem cdm83 : cdA 83 ∈ lw_tbl := in_tables_1_4 _ (List.mem_of_getElem? (i := 33) rfl)
set_option maxRecDepth 100000 in
theorem cdm84 : cdA 84 ∈ lw_tbl := in_tables_1_4 _ (List.mem_of_getElem? (i := 37) rfl)
set_option maxRecDepth 100000 in
theorem cdm85 : cdA 85 ∈ lw_tbl := in_tables_1_3 _ (List.mem_of_getElem? (i := 166) rfl)
set_option maxRecDepth 100000 in
theorem cdm86 : cdA 86 ∈ lw_tbl := in_tables_1_3 _ (List.mem_of_getElem? (i := 170) rfl)
set_option maxRecDepth 100000 in
theorem cdm87 : cdA 87 ∈ lw_tbl := in_tables_1_4 _ (List.mem_of_getElem? (i := 78) rfl)
set_option maxRecDepth 100000 in
theorem cdm88 : cdA 88 ∈ lw_tbl := in_tables_1_4 _ (List.mem_of_getElem? (i := 87) rfl)
set_option maxRecDepth 100000 in
theorem cdm89 : cdA 89 ∈ lw_tbl := in_tables_1_3 _ (List.mem_of_getElem? (i := 83) rfl)
set_option maxRecDepth 100000 in
theorem cdm90 : cdA 90 ∈ lw_tbl := in_tables_1_4 _ (List.mem_of_getElem? (i := 58) rfl)
set_option maxRecDepth 100000 in
theorem cdm91 : cdA 91 ∈ lw_tbl := in_tables_1_4 _ (List.mem_of_getElem? (i := 66) rfl)
set_option maxRecDepth 100000 in
theorem cdm92 : cdA 92 ∈ lw_tbl := in_tables_1_5 _ (List.mem_of_getElem? (i := 8) rfl)
set_option maxRecDepth 100000 in
theorem cdm93 : cdA 93 ∈ lw_tbl := in_tables_1_5 _ (List.mem_of_getElem? (i := 17) rfl)
set_option maxRecDepth 100000 in
theorem cdm94 : cdA 94 ∈ lw_tbl := in_tables_1_5 _ (List.mem_of_getElem? (i := 22) rfl)
set_option maxRecDepth 100000 in
theorem cdm95 : cdA 95 ∈ lw_tbl := in_tables_1_5 _ (List.mem_of_getElem? (i := 27) rfl)
set_option maxRecDepth 100000 in
theorem cdm96 : cdA 96 ∈ lw_tbl := in_tables_1_5 _ (List.mem_of_getElem? (i := 12) rfl)
set_option maxRecDepth 100000 in
theorem cdm97 : cdA 97 ∈ lw_tbl := in_tables_1_4 _ (List.mem_of_getElem? (i := 112) rfl)
set_option maxRecDepth 100000 in
theorem cdm98 : cdA 98 ∈ lw_tbl := in_tables_1_4 _ (List.mem_of_getElem? (i := 116) rfl)
set_option maxRecDepth 100000 in
theorem cdm99 : cdA 99 ∈ lw_tbl := in_tables_1_4 _ (List.mem_of_getElem? (i := 142) rfl)
set_option maxRecDepth 100000 in
theorem cdm100 : cdA 100 ∈ lw_tbl := in_tables_1_4 _ (List.mem_of_getElem? (i := 62) rfl)
set_option maxRecDepth 100000 in
theorem cdm101 : cdA 101 ∈ lw_tbl := in_tables_1_4 _ (List.mem_of_getElem? (i := 231) rfl)
set_option maxRecDepth 100000 in
theorem cdm102 : cdA 102 ∈ lw_tbl := in_tables_1_1 _ (List.mem_of_getElem? (i := 19) rfl)
set_option maxRecDepth 100000 in
theorem cdm103 : cdA 103 ∈ lw_tbl := in_tables_1_2 _ (List.mem_of_getElem? (i := 134) rfl)
set_option maxRecDepth 100000 in
theorem cdm104 : cdA 104 ∈ lw_tbl := in_tables_1_2 _ (List.mem_of_getElem? (i := 156) rfl)
set_option maxRecDepth 100000 in
theorem cdm105 : cdA 105 ∈ lw_tbl := in_tables_1_2 _ (List.mem_of_getElem? (i := 172) rfl)
set_option maxRecDepth 100000 in
theorem cdm106 : cdA 106 ∈ lw_tbl := in_tables_1_2 _ (List.mem_of_getElem? (i := 179) rfl)
set_option maxRecDepth 100000 in
theorem cdm107 : cdA 107 ∈ lw_tbl := in_tables_1_2 _ (List.mem_of_getElem? (i := 183) rfl)
set_option maxRecDepth 100000 in
theorem cdm108 : cdA 108 ∈ lw_tbl := in_tables_1_2 _ (List.mem_of_getElem? (i := 187) rfl)
set_option maxRecDepth 100000 in
theorem cdm109 : cdA 109 ∈ lw_tbl := in_tables_1_2 _ (List.mem_of_getElem? (i := 212) rfl)
set_option maxRecDepth 100000 in
theorem cdm110 : cdA 110 ∈ lw_tbl := in_tables_1_2 _ (List.mem_of_getElem? (i := 228) rfl)
set_option maxRecDepth 100000 in
theorem cdm111 : cdA 111 ∈ lw_tbl := in_tables_1_2 _ (List.mem_of_getElem? (i := 237) rfl)
set_option maxRecDepth 100000 in
theorem cdm112 : cdA 112 ∈ lw_tbl := in_tables_1_3 _ (List.mem_of_getElem? (i := 1) rfl)
set_option maxRecDepth 100000 in
theorem cdm113 : cdA 113 ∈ lw_tbl := in_tables_1_3 _ (List.mem_of_getElem? (i := 35) rfl)
set_option maxRecDepth 100000 in
theorem cdm114 : cdA 114 ∈ lw_tbl := in_tables_1_3 _ (List.mem_of_getElem? (i := 48) rfl)
set_option maxRecDepth 100000 in
theorem cdm115 : cdA 115 ∈ lw_tbl := in_tables_1_3 _ (List.mem_of_getElem? (i := 59) rfl)
set_option maxRecDepth 100000 in
theorem cdm116 : cdA 116 ∈ lw_tbl := in_tables_1_3 _ (List.mem_of_getElem? (i := 71) rfl)
set_option maxRecDepth 100000 in
theorem cdm117 : cdA 117 ∈ lw_tbl := in_tables_1_3 _ (List.mem_of_getElem? (i := 100) rfl)
set_option maxRecDepth 100000 in
theorem cdm118 : cdA 118 ∈ lw_tbl := in_tables_1_3 _ (List.mem_of_getElem? (i := 104) rfl)
set_option maxRecDepth 100000 in
theorem cdm119 : cdA 119 ∈ lw_tbl := in_tables_1_3 _ (List.mem_of_getElem? (i := 189) rfl)
set_option maxRecDepth 100000 in
theorem cdm120 : cdA 120 ∈ lw_tbl := in_tables_1_3 _ (List.mem_of_getElem? (i := 229) rfl)
set_option maxRecDepth 100000 in
theorem cdm121 : cdA 121 ∈ lw_tbl := in_tables_1_3 _ (List.mem_of_getElem? (i := 233) rfl)
set_option maxRecDepth 100000 in
theorem cdm122 : cdA 122 ∈ lw_tbl := in_tables_1_4 _ (List.mem_of_getElem? (i := 29) rfl)
set_option maxRecDepth 100000 in
theorem cdm123 : cdA 123 ∈ lw_tbl := in_tables_1_4 _ (List.mem_of_getElem? (i := 54) rfl)
set_option maxRecDepth 100000 in
theorem cdm124 : cdA 124 ∈ lw_tbl := in_tables_1_4 _ (List.mem_of_getElem? (i := 73) rfl)
set_option maxRecDepth 100000 in
theorem cdm125 : cdA 125 ∈ lw_tbl := in_tables_1_4 _ (List.mem_of_getElem? (i := 83) rfl)
set_option maxRecDepth 100000 in
theorem cdm126 : cdA 126 ∈ lw_tbl := in_tables_1_4 _ (List.mem_of_getElem? (i := 91) rfl)
set_option maxRecDepth 100000 in
theorem cdm127 : cdA 127 ∈ lw_tbl := in_tables_1_4 _ (List.mem_of_getElem? (i := 100) rfl)
set_option maxRecDepth 100000 in
theorem cdm128 : cdA 128 ∈ lw_tbl := in_tables_1_4 _ (List.mem_of_getElem? (i := 120) rfl)
set_option maxRecDepth 100000 in
theorem cdm129 : cdA 129 ∈ lw_tbl := in_tables_1_4 _ (List.mem_of_getElem? (i := 125) rfl)
set_option maxRecDepth 100000 in
theorem cdm130 : cdA 130 ∈ lw_tbl := in_tables_1_4 _ (List.mem_of_getElem? (i := 130) rfl)
set_option maxRecDepth 100000 in
theorem cdm131 : cdA 131 ∈ lw_tbl := in_tables_1_4 _ (List.mem_of_getElem? (i := 138) rfl)
set_option maxRecDepth 100000 in
theorem cdm132 : cdA 132 ∈ lw_tbl := in_tables_1_4 _ (List.mem_of_getElem? (i := 147) rfl)
set_option maxRecDepth 100000 in
theorem cdm133 : cdA 133 ∈ lw_tbl := in_tables_1_4 _ (List.mem_of_getElem? (i := 151) rfl)
set_option maxRecDepth 100000 in
theorem cdm134 : cdA 134 ∈ lw_tbl := in_tables_1_4 _ (List.mem_of_getElem? (i := 155) rfl)
set_option maxRecDepth 100000 in
theorem cdm135 : cdA 135 ∈ lw_tbl := in_tables_1_4 _ (List.mem_of_getElem? (i := 163) rfl)
set_option maxRecDepth 100000 in
theorem cdm136 : cdA 136 ∈ lw_tbl := in_tables_1_4 _ (List.mem_of_getElem? (i := 168) rfl)
set_option maxRecDepth 100000 in
theorem cdm137 : cdA 137 ∈ lw_tbl := in_tables_1_4 _ (List.mem_of_getElem? (i := 176) rfl)
set_option maxRecDepth 100000 in
theorem cdm138 : cdA 138 ∈ lw_tbl := in_tables_1_4 _ (List.mem_of_getElem? (i := 182) rfl)
set_option maxRecDepth 100000 in
theorem cdm139 : cdA 139 ∈ lw_tbl := in_tables_1_4 _ (List.mem_of_getElem? (i := 190) rfl)
set_option maxRecDepth 100000 in
theorem cdm140 : cdA 140 ∈ lw_tbl := in_tables_1_4 _ (List.mem_of_getElem? (i := 204) rfl)
set_option maxRecDepth 100000 in
theorem cdm141 : cdA 141 ∈ lw_tbl := in_tables_1_4 _ (List.mem_of_getElem? (i := 227) rfl)
set_option maxRecDepth 100000 in
theorem cdm142 : cdA 142 ∈ lw_tbl := in_tables_1_4 _ (List.mem_of_getElem? (i := 236) rfl)
set_option maxRecDepth 100000 in
theorem cdm143 : cdA 143 ∈ lw_tbl := in_tables_1_5 _ (List.mem_of_getElem? (i := 4) rfl)
set_option maxRecDepth 100000 in
theorem cdm144 : cdA 144 ∈ lw_tbl := in_tables_1_5 _ (List.mem_of_getElem? (i := 34) rfl)
set_option maxRecDepth 100000 in
theorem cdm145 : cdA 145 ∈ lw_tbl := in_tables_1_5 _ (List.mem_of_getElem? (i := 38) rfl)
set_option maxRecDepth 100000 in
theorem cdm146 : cdA 146 ∈ lw_tbl := in_tables_1_5 _ (List.mem_of_getElem? (i := 64) rfl)
set_option maxRecDepth 100000 in
theorem cdm147 : cdA 147 ∈ lw_tbl := in_tables_1_5 _ (List.mem_of_getElem? (i := 68) rfl)
set_option maxRecDepth 100000 in
theorem cdm148 : cdA 148 ∈ lw_tbl := in_tables_1_2 _ (List.mem_of_getElem? (i := 148) rfl)
set_option maxRecDepth 100000 in
theorem cdm149 : cdA 149 ∈ lw_tbl := in_tables_1_3 _ (List.mem_of_getElem? (i := 26) rfl)
set_option maxRecDepth 100000 in
theorem cdm150 : cdA 150 ∈ lw_tbl := in_tables_1_5 _ (List.mem_of_getElem? (i := 77) rfl)
set_option maxRecDepth 100000 in
theorem cdm151 : cdA 151 ∈ lw_tbl := in_tables_1_2 _ (List.mem_of_getElem? (i := 138) rfl)
set_option maxRecDepth 100000 in
theorem cdm152 : cdA 152 ∈ lw_tbl := in_tables_1_5 _ (List.mem_of_getElem? (i := 73) rfl)
set_option maxRecDepth 100000 in
theorem cdm153 : cdA 153 ∈ lw_tbl := in_tables_1_2 _ (List.mem_of_getElem? (i := 195) rfl)
set_option maxRecDepth 100000 in
theorem cdm154 : cdA 154 ∈ lw_tbl := in_tables_1_2 _ (List.mem_of_getElem? (i := 141) rfl)
set_option maxRecDepth 100000 in
theorem cdm155 : cdA 155 ∈ lw_tbl := in_tables_1_2 _ (List.mem_of_getElem? (i := 144) rfl)
set_option maxRecDepth 100000 in
theorem cdm156 : cdA 156 ∈ lw_tbl := in_tables_1_3 _ (List.mem_of_getElem? (i := 55) rfl)
set_option maxRecDepth 100000 in
theorem cdm157 : cdA 157 ∈ lw_tbl := in_tables_1_2 _ (List.mem_of_getElem? (i := 168) rfl)
set_option maxRecDepth 100000 in
theorem cdm158 : cdA 158 ∈ lw_tbl := in_tables_1_5 _ (List.mem_of_getElem? (i := 82) rfl)
set_option maxRecDepth 100000 in
theorem cdm159 : cdA 159 ∈ lw_tbl := in_tables_1_5 _ (List.mem_of_getElem? (i := 143) rfl)
set_option maxRecDepth 100000 in
theorem cdm160 : cdA 160 ∈ lw_tbl := in_tables_1_5 _ (List.mem_of_getElem? (i := 147) rfl)
set_option maxRecDepth 100000 in
theorem cdm161 : cdA 161 ∈ lw_tbl := in_tables_1_6 _ (List.mem_of_getElem? (i := 198) rfl)
set_option maxRecDepth 100000 in
theorem cdm162 : cdA 162 ∈ lw_tbl := in_tables_1_5 _ (List.mem_of_getElem? (i := 197) rfl)
set_option maxRecDepth 100000 in
theorem cdm163 : cdA 163 ∈ lw_tbl := in_tables_1_5 _ (List.mem_of_getElem? (i := 181) rfl)
set_option maxRecDepth 100000 in
theorem cdm164 : cdA 164 ∈ lw_tbl := in_tables_1_5 _ (List.mem_of_getElem? (i := 209) rfl)
set_option maxRecDepth 100000 in
theorem cdm165 : cdA 165 ∈ lw_tbl := in_tables_1_6 _ (List.mem_of_getElem? (i := 43) rfl)
set_option maxRecDepth 100000 in
theorem cdm166 : cdA 166 ∈ lw_tbl := in_tables_1_6 _ (List.mem_of_getElem? (i := 39) rfl)
set_option maxRecDepth 100000 in
theorem cdm167 : cdA 167 ∈ lw_tbl := in_tables_1_6 _ (List.mem_of_getElem? (i := 35) rfl)
set_option maxRecDepth 100000 in
theorem cdm168 : cdA 168 ∈ lw_tbl := in_tables_1_6 _ (List.mem_of_getElem? (i := 27) rfl)
set_option maxRecDepth 100000 in
theorem cdm169 : cdA 169 ∈ lw_tbl := in_tables_1_5 _ (List.mem_of_getElem? (i := 239) rfl)
set_option maxRecDepth 100000 in
theorem cdm170 : cdA 170 ∈ lw_tbl := in_tables_1_6 _ (List.mem_of_getElem? (i := 3) rfl)
set_option maxRecDepth 100000 in
theorem cdm171 : cdA 171 ∈ lw_tbl := in_tables_1_6 _ (List.mem_of_getElem? (i := 23) rfl)
set_option maxRecDepth 100000 in
theorem cdm172 : cdA 172 ∈ lw_tbl := in_tables_1_5 _ (List.mem_of_getElem? (i := 139) rfl)
set_option maxRecDepth 100000 in
theorem cdm173 : cdA 173 ∈ lw_tbl := in_tables_1_5 _ (List.mem_of_getElem? (i := 151) rfl)
set_option maxRecDepth 100000 in
theorem cdm174 : cdA 174 ∈ lw_tbl := in_tables_1_5 _ (List.mem_of_getElem? (i := 163) rfl)
set_option maxRecDepth 100000 in
theorem cdm175 : cdA 175 ∈ lw_tbl := in_tables_1_5 _ (List.mem_of_getElem? (i := 159) rfl)
set_option maxRecDepth 100000 in
theorem cdm176 : cdA 176 ∈ lw_tbl := in_tables_1_5 _ (List.mem_of_getElem? (i := 169) rfl)
set_option maxRecDepth 100000 in
theorem cdm177 : cdA 177 ∈ lw_tbl := in_tables_1_5 _ (List.mem_of_getElem? (i := 155) rfl)
set_option maxRecDepth 100000 in
theorem cdm178 : cdA 178 ∈ lw_tbl := in_tables_1_5 _ (List.mem_of_getElem? (i := 173) rfl)
set_option maxRecDepth 100000 in
theorem cdm179 : cdA 179 ∈ lw_tbl := in_tables_1_5 _ (List.mem_of_getElem? (i := 193) rfl)
set_option maxRecDepth 100000 in
theorem cdm180 : cdA 180 ∈ lw_tbl := in_tables_1_5 _ (List.mem_of_getElem? (i := 201) rfl)
set_option maxRecDepth 100000 in
theorem cdm181 : cdA 181 ∈ lw_tbl := in_tables_1_5 _ (List.mem_of_getElem? (i := 189) rfl)
set_option maxRecDepth 100000 in
theorem cdm182 : cdA 182 ∈ lw_tbl := in_tables_1_5 _ (List.mem_of_getElem? (i := 185) rfl)
set_option maxRecDepth 100000 in
theorem cdm183 : cdA 183 ∈ lw_tbl := in_tables_1_5 _ (List.mem_of_getElem? (i := 205) rfl)
set_option maxRecDepth 100000 in
theorem cdm184 : cdA 184 ∈ lw_tbl := in_tables_1_5 _ (List.mem_of_getElem? (i := 213) rfl)
set_option maxRecDepth 100000 in
theorem cdm185 : cdA 185 ∈ lw_tbl := in_tables_1_6 _ (List.mem_of_getElem? (i := 63) rfl)
set_option maxRecDepth 100000 in
theorem cdm186 : cdA 186 ∈ lw_tbl := in_tables_1_5 _ (List.mem_of_getElem? (i := 235) rfl)
set_option maxRecDepth 100000 in
theorem cdm187 : cdA 187 ∈ lw_tbl := in_tables_1_5 _ (List.mem_of_getElem? (i := 227) rfl)
set_option maxRecDepth 100000 in
theorem cdm188 : cdA 188 ∈ lw_tbl := in_tables_1_5 _ (List.mem_of_getElem? (i := 231) rfl)
set_option maxRecDepth 100000 in
theorem cdm189 : cdA 189 ∈ lw_tbl := in_tables_1_6 _ (List.mem_of_getElem? (i := 88) rfl)
set_option maxRecDepth 100000 in
theorem cdm190 : cdA 190 ∈ lw_tbl := in_tables_1_6 _ (List.mem_of_getElem? (i := 84) rfl)
set_option maxRecDepth 100000 in
theorem cdm191 : cdA 191 ∈ lw_tbl := in_tables_1_6 _ (List.mem_of_getElem? (i := 67) rfl)
set_option maxRecDepth 100000 in
theorem cdm192 : cdA 192 ∈ lw_tbl := in_tables_1_5 _ (List.mem_of_getElem? (i := 217) rfl)
set_option maxRecDepth 100000 in
theorem cdm193 : cdA 193 ∈ lw_tbl := in_tables_1_5 _ (List.mem_of_getElem? (i := 223) rfl)
set_option maxRecDepth 100000 in
theorem cdm194 : cdA 194 ∈ lw_tbl := in_tables_1_6 _ (List.mem_of_getElem? (i := 19) rfl)
set_option maxRecDepth 100000 in
theorem cdm195 : cdA 195 ∈ lw_tbl := in_tables_1_6 _ (List.mem_of_getElem? (i := 15) rfl)
set_option maxRecDepth 100000 in
theorem cdm196 : cdA 196 ∈ lw_tbl := in_tables_1_6 _ (List.mem_of_getElem? (i := 31) rfl)
set_option maxRecDepth 100000 in
theorem cdm197 : cdA 197 ∈ lw_tbl := in_tables_1_6 _ (List.mem_of_getElem? (i := 11) rfl)
set_option maxRecDepth 100000 in
theorem cdm198 : cdA 198 ∈ lw_tbl := in_tables_1_6 _ (List.mem_of_getElem? (i := 7) rfl)
set_option maxRecDepth 100000 in
theorem cdm199 : cdA 199 ∈ lw_tbl := in_tables_1_6 _ (List.mem_of_getElem? (i := 47) rfl)
set_option maxRecDepth 100000 in
theorem cdm200 : cdA 200 ∈ lw_tbl := in_tables_1_6 _ (List.mem_of_getElem? (i := 72) rfl)
set_option maxRecDepth 100000 in
theorem cdm201 : cdA 201 ∈ lw_tbl := in_tables_1_6 _ (List.mem_of_getElem? (i := 55) rfl)
set_option maxRecDepth 100000 in
theorem cdm202 : cdA 202 ∈ lw_tbl := in_tables_1_6 _ (List.mem_of_getElem? (i := 59) rfl)
set_option maxRecDepth 100000 in
theorem cdm203 : cdA 203 ∈ lw_tbl := in_tables_1_6 _ (List.mem_of_getElem? (i := 80) rfl)
set_option maxRecDepth 100000 in
theorem cdm204 : cdA 204 ∈ lw_tbl := in_tables_1_6 _ (List.mem_of_getElem? (i := 51) rfl)
set_option maxRecDepth 100000 in
theorem cdm205 : cdA 205 ∈ lw_tbl := in_tables_1_6 _ (List.mem_of_getElem? (i := 76) rfl)
set_option maxRecDepth 100000 in
theorem cdm206 : cdA 206 ∈ lw_tbl := in_tables_1_6 _ (List.mem_of_getElem? (i := 92) rfl)
set_option maxRecDepth 100000 in
theorem cdm207 : cdA 207 ∈ lw_tbl := in_tables_1_6 _ (List.mem_of_getElem? (i := 96) rfl)
set_option maxRecDepth 100000 in
theorem cdm208 : cdA 208 ∈ lw_tbl := in_tables_1_6 _ (List.mem_of_getElem? (i := 100) rfl)
set_option maxRecDepth 100000 in
theorem cdm209 : cdA 209 ∈ lw_tbl := in_tables_1_6 _ (List.mem_of_getElem? (i := 104) rfl)
set_option maxRecDepth 100000 in
theorem cdm210 : cdA 210 ∈ lw_tbl := in_tables_1_6 _ (List.mem_of_getElem? (i := 117) rfl)
set_option maxRecDepth 100000 in
theorem cdm211 : cdA 211 ∈ lw_tbl := in_tables_1_6 _ (List.mem_of_getElem? (i := 113) rfl)
set_option maxRecDepth 100000 in
theorem cdm212 : cdA 212 ∈ lw_tbl := in_tables_1_6 _ (List.mem_of_getElem? (i := 109) rfl)
set_option maxRecDepth 100000 in
theorem cdm213 : cdA 213 ∈ lw_tbl := in_tables_1_6 _ (List.mem_of_getElem? (i := 121) rfl)
set_option maxRecDepth 100000 in
theorem cdm214 : cdA 214 ∈ lw_tbl := in_tables_1_6 _ (List.mem_of_getElem? (i := 125) rfl)
set_option maxRecDepth 100000 in
theorem cdm215 : cdA 215 ∈ lw_tbl := in_tables_1_6 _ (List.mem_of_getElem? (i := 129) rfl)
set_option maxRecDepth 100000 in
theorem cdm216 : cdA 216 ∈ lw_tbl := in_tables_1_6 _ (List.mem_of_getElem? (i := 133) rfl)
set_option maxRecDepth 100000 in
theorem cdm217 : cdA 217 ∈ lw_tbl := in_tables_1_6 _ (List.mem_of_getElem? (i := 142) rfl)
set_option maxRecDepth 100000 in
theorem cdm218 : cdA 218 ∈ lw_tbl := in_tables_1_6 _ (List.mem_of_getElem? (i := 146) rfl)
set_option maxRecDepth 100000 in
theorem cdm219 : cdA 219 ∈ lw_tbl := in_tables_1_6 _ (List.mem_of_getElem? (i := 150) rfl)
set_option maxRecDepth 100000 in
theorem cdm220 : cdA 220 ∈ lw_tbl := in_tables_1_6 _ (List.mem_of_getElem? (i := 137) rfl)
set_option maxRecDepth 100000 in
theorem cdm221 : cdA 221 ∈ lw_tbl := in_tables_1_6 _ (List.mem_of_getElem? (i := 154) rfl)
set_option maxRecDepth 100000 in
theorem cdm222 : cdA 222 ∈ lw_tbl := in_tables_1_6 _ (List.mem_of_getElem? (i := 159) rfl)
set_option maxRecDepth 100000 in
theorem cdm223 : cdA 223 ∈ lw_tbl := in_tables_1_6 _ (List.mem_of_getElem? (i := 163) rfl)
set_option maxRecDepth 100000 in
theorem cdm224 : cdA 224 ∈ lw_tbl := in_tables_1_6 _ (List.mem_of_getElem? (i := 167) rfl)
set_option maxRecDepth 100000 in
theorem cdm225 : cdA 225 ∈ lw_tbl := in_tables_1_6 _ (List.mem_of_getElem? (i := 171) rfl)
set_option maxRecDepth 100000 in
theorem cdm226 : cdA 226 ∈ lw_tbl := in_tables_1_6 _ (List.mem_of_getElem? (i := 179) rfl)
set_option maxRecDepth 100000 in
theorem cdm227 : cdA 227 ∈ lw_tbl := in_tables_1_6 _ (List.mem_of_getElem? (i := 175) rfl)
set_option maxRecDepth 100000 in
theorem cdm228 : cdA 228 ∈ lw_tbl := in_tables_1_6 _ (List.mem_of_getElem? (i := 183) rfl)
set_option maxRecDepth 100000 in
theorem cdm229 : cdA 229 ∈ lw_tbl := in_tables_1_6 _ (List.mem_of_getElem? (i := 187) rfl)
set_option maxRecDepth 100000 in
theorem cdm230 : cdA 230 ∈ lw_tbl := in_tables_1_6 _ (List.mem_of_getElem? (i := 195) rfl)
set_option maxRecDepth 100000 in
theorem cdm231 : cdA 231 ∈ lw_tbl := in_tables_1_6 _ (List.mem_of_getElem? (i := 191) rfl)
set_option maxRecDepth 100000 in
theorem cdm232 : cdA 232 ∈ lw_tbl := in_tables_1_6 _ (List.mem_of_getElem? (i := 202) rfl)
set_option maxRecDepth 100000 in
theorem cdm233 : cdA 233 ∈ lw_tbl := in_tables_1_6 _ (List.mem_of_getElem? (i := 206) rfl)
set_option maxRecDepth 100000 in
theorem cdm234 : cdA 234 ∈ lw_tbl := in_tables_1_6 _ (List.mem_of_getElem? (i := 213) rfl)
set_option maxRecDepth 100000 in
theorem cdm235 : cdA 235 ∈ lw_tbl := in_tables_1_6 _ (List.mem_of_getElem? (i := 210) rfl)
set_option maxRecDepth 100000 in
theorem cdm236 : cdA 236 ∈ lw_tbl := in_tables_1_6 _ (List.mem_of_getElem? (i := 221) rfl)
set_option maxRecDepth 100000 in
theorem cdm237 : cdA 237 ∈ lw_tbl := in_tables_1_6 _ (List.mem_of_getElem? (i := 218) rfl)
set_option maxRecDepth 100000 in
theorem cdm238 : cdA 238 ∈ lw_tbl := in_tables_1_6 _ (List.mem_of_getElem? (i := 225) rfl)
set_option maxRecDepth 100000 in
theorem cdm239 : cdA 239 ∈ lw_tbl := in_tables_1_6 _ (List.mem_of_getElem? (i := 229) rfl)
set_option maxRecDepth 100000 in
theorem cdm240 : cdA 240 ∈ lw_tbl := in_tables_1_6 _ (List.mem_of_getElem? (i := 233) rfl)
set_option maxRecDepth 100000 in
theorem cdm241 : cdA 241 ∈ lw_tbl := in_tables_1_6 _ (List.mem_of_getElem? (i := 237) rfl)
set_option maxRecDepth 100000 in
theorem cdm242 : cdA 242 ∈ lw_tbl := in_tables_1_7 _ (List.mem_of_getElem? (i := 5) rfl)
set_option maxRecDepth 100000 in
theorem cdm243 : cdA 243 ∈ lw_tbl := in_tables_1_7 _ (List.mem_of_getElem? (i := 1) rfl)
set_option maxRecDepth 100000 in
theorem cdm244 : cdA 244 ∈ lw_tbl := in_tables_1_7 _ (List.mem_of_getElem? (i := 9) rfl)
set_option maxRecDepth 100000 in
theorem cdm245 : cdA 245 ∈ lw_tbl := in_tables_1_7 _ (List.mem_of_getElem? (i := 18) rfl)
set_option maxRecDepth 100000 in
theorem cdm246 : cdA 246 ∈ lw_tbl := in_tables_1_7 _ (List.mem_of_getElem? (i := 23) rfl)
set_option maxRecDepth 100000 in
theorem cdm247 : cdA 247 ∈ lw_tbl := in_tables_1_7 _ (List.mem_of_getElem? (i := 13) rfl)
set_option maxRecDepth 100000 in
theorem cdm248 : cdA 248 ∈ lw_tbl := in_tables_1_7 _ (List.mem_of_getElem? (i := 27) rfl)
set_option maxRecDepth 100000 in
theorem cdm249 : cdA 249 ∈ lw_tbl := in_tables_1_7 _ (List.mem_of_getElem? (i := 31) rfl)
set_option maxRecDepth 100000 in
theorem cdm250 : cdA 250 ∈ lw_tbl := in_tables_1_7 _ (List.mem_of_getElem? (i := 35) rfl)
set_option maxRecDepth 100000 in
theorem cdm251 : cdA 251 ∈ lw_tbl := in_tables_1_7 _ (List.mem_of_getElem? (i := 43) rfl)
set_option maxRecDepth 100000 in
theorem cdm252 : cdA 252 ∈ lw_tbl := in_tables_1_7 _ (List.mem_of_getElem? (i := 47) rfl)
set_option maxRecDepth 100000 in
theorem cdm253 : cdA 253 ∈ lw_tbl := in_tables_1_7 _ (List.mem_of_getElem? (i := 39) rfl)
def cdl0 : List Nat := [0, 1, 2, 3, 4, 5, 6, 7, 8, 9, 10, 11, 12, 13, 14, 15, 16, 17, 18, 19, 20, 21, 22, 23, 24, 25, 26, 27, 28, 29, 30, 31]
theorem cdl0_ok : ∀ j ∈ cdl0, cdA j ∈ lw_tbl := List.forall_mem_cons.mpr ⟨cdm0, List.forall_mem_cons.mpr ⟨cdm1, List.forall_mem_cons.mpr ⟨cdm2, List.forall_mem_cons.mpr ⟨cdm3, List.forall_mem_cons.mpr ⟨cdm4, List.forall_mem_cons.mpr ⟨cdm5, List.forall_mem_cons.mpr ⟨cdm6, List.forall_mem_cons.mpr ⟨cdm7, List.forall_mem_cons.mpr ⟨cdm8, List.forall_mem_cons.mpr ⟨cdm9, List.forall_mem_cons.mpr ⟨cdm10, List.forall_mem_cons.mpr ⟨cdm11, List.forall_mem_cons.mpr ⟨cdm12, List.forall_mem_cons.mpr ⟨cdm13, List.forall_mem_cons.mpr ⟨cdm14, List.forall_mem_cons.mpr ⟨cdm15, List.forall_mem_cons.mpr ⟨cdm16, List.forall_mem_cons.mpr ⟨cdm17, List.forall_mem_cons.mpr ⟨cdm18, List.forall_mem_cons.mpr ⟨cdm19, List.forall_mem_cons.mpr ⟨cdm20, List.forall_mem_cons.mpr ⟨cdm21, List.forall_mem_cons.mpr ⟨cdm22, List.forall_mem_cons.mpr ⟨cdm23, List.forall_mem_cons.mpr ⟨cdm24, List.forall_mem_cons.mpr ⟨cdm25, List.forall_mem_cons.mpr ⟨cdm26, List.forall_mem_cons.mpr ⟨cdm27, List.forall_mem_cons.mpr ⟨cdm28, List.forall_mem_cons.mpr ⟨cdm29, List.forall_mem_cons.mpr ⟨cdm30, List.forall_mem_cons.mpr ⟨cdm31, fun _ h => absurd h List.not_mem_nil⟩⟩⟩⟩⟩⟩⟩⟩⟩⟩⟩⟩⟩⟩⟩⟩⟩⟩⟩⟩⟩⟩⟩⟩⟩⟩⟩⟩⟩⟩⟩⟩
def cdl1 : List Nat := [32, 33, 34, 35, 36, 37, 38, 39, 40, 41, 42, 43, 44, 45, 46, 47, 48, 49, 50, 51, 52, 53, 54, 55, 56, 57, 58, 59, 60, 61, 62, 63]
theorem cdl1_ok : ∀ j ∈ cdl1, cdA j ∈ lw_tbl := List.forall_mem_cons.mpr ⟨cdm32, List.forall_mem_cons.mpr ⟨cdm33, List.forall_mem_cons.mpr ⟨cdm34, List.forall_mem_cons.mpr ⟨cdm35, List.forall_mem_cons.mpr ⟨cdm36, List.forall_mem_cons.mpr ⟨cdm37, List.forall_mem_cons.mpr ⟨cdm38, List.forall_mem_cons.mpr ⟨cdm39, List.forall_mem_cons.mpr ⟨cdm40, List.forall_mem_cons.mpr ⟨cdm41, List.forall_mem_cons.mpr ⟨cdm42, List.forall_mem_cons.mpr ⟨cdm43, List.forall_mem_cons.mpr ⟨cdm44, List.forall_mem_cons.mpr ⟨cdm45, List.forall_mem_cons.mpr ⟨cdm46, List.forall_mem_cons.mpr ⟨cdm47, List.forall_mem_cons.mpr ⟨cdm48, List.forall_mem_cons.mpr ⟨cdm49, List.forall_mem_cons.mpr ⟨cdm50, List.forall_mem_cons.mpr ⟨cdm51, List.forall_mem_cons.mpr ⟨cdm52, List.forall_mem_cons.mpr ⟨cdm53, List.forall_mem_cons.mpr ⟨cdm54, List.forall_mem_cons.mpr ⟨cdm55, List.forall_mem_cons.mpr ⟨cdm56, List.forall_mem_cons.mpr ⟨cdm57, List.forall_mem_cons.mpr ⟨cdm58, List.forall_mem_cons.mpr ⟨cdm59, List.forall_mem_cons.mpr ⟨cdm60, List.forall_mem_cons.mpr ⟨cdm61, List.forall_mem_cons.mpr ⟨cdm62, List.forall_mem_cons.mpr ⟨cdm63, fun _ h => absurd h List.not_mem_nil⟩⟩⟩⟩⟩⟩⟩⟩⟩⟩⟩⟩⟩⟩⟩⟩⟩⟩⟩⟩⟩⟩⟩⟩⟩⟩⟩⟩⟩⟩⟩⟩
def cdl2 : List Nat := [64, 65, 66, 67, 68, 69, 70, 71, 72, 73, 74, 75, 76, 77, 78, 79, 80, 81, 82, 83, 84, 85, 86, 87, 88, 89, 90, 91, 92, 93, 94, 95]
theorem cdl2_ok : ∀ j ∈ cdl2, cdA j ∈ lw_tbl := List.forall_mem_cons.mpr ⟨cdm64, List.forall_mem_cons.mpr ⟨cdm65, List.forall_mem_cons.mpr ⟨cdm66, List.forall_mem_cons.mpr ⟨cdm67, List.forall_mem_cons.mpr ⟨cdm68, List.forall_mem_cons.mpr ⟨cdm69, List.forall_mem_cons.mpr ⟨cdm70, List.forall_mem_cons.mpr ⟨cdm71, List.forall_mem_cons.mpr ⟨cdm72, List.forall_mem_cons.mpr ⟨cdm73, List.forall_mem_cons.mpr ⟨cdm74, List.forall_mem_cons.mpr ⟨cdm75, List.forall_mem_cons.mpr ⟨cdm76, List.forall_mem_cons.mpr ⟨cdm77, List.forall_mem_cons.mpr ⟨cdm78, List.forall_mem_cons.mpr ⟨cdm79, List.forall_mem_cons.mpr ⟨cdm80, List.forall_mem_cons.mpr ⟨cdm81, List.forall_mem_cons.mpr ⟨cdm82, List.forall_mem_cons.mpr ⟨cdm83, List.forall_mem_cons.mpr ⟨cdm84, List.forall_mem_cons.mpr ⟨cdm85, List.forall_mem_cons.mpr ⟨cdm86, List.forall_mem_cons.mpr ⟨cdm87, List.forall_mem_cons.mpr ⟨cdm88, List.forall_mem_cons.mpr ⟨cdm89, List.forall_mem_cons.mpr ⟨cdm90, List.forall_mem_cons.mpr ⟨cdm91, List.forall_mem_cons.mpr ⟨cdm92, List.forall_mem_cons.mpr ⟨cdm93, List.forall_mem_cons.mpr ⟨cdm94, List.forall_mem_cons.mpr ⟨cdm95, fun _ h => absurd h List.not_mem_nil⟩⟩⟩⟩⟩⟩⟩⟩⟩⟩⟩⟩⟩⟩⟩⟩⟩⟩⟩⟩⟩⟩⟩⟩⟩⟩⟩⟩⟩⟩⟩⟩
def cdl3 : List Nat := [96, 97, 98, 99, 100, 101, 102, 103, 104, 105, 106, 107, 108, 109, 110, 111, 112, 113, 114, 115, 116, 117, 118, 119, 120, 121, 122, 123, 124, 125, 126, 127]
theorem cdl3_ok : ∀ j ∈ cdl3, cdA j ∈ lw_tbl := List.forall_mem_cons.mpr ⟨cdm96, List.forall_mem_cons.mpr ⟨cdm97, List.forall_mem_cons.mpr ⟨cdm98, List.forall_mem_cons.mpr ⟨cdm99, List.forall_mem_cons.mpr ⟨cdm100, List.forall_mem_cons.mpr ⟨cdm101, List.forall_mem_cons.mpr ⟨cdm102, List.forall_mem_cons.mpr ⟨cdm103, List.forall_mem_cons.mpr ⟨cdm104, List.forall_mem_cons.mpr ⟨cdm105, List.forall_mem_cons.mpr ⟨cdm106, List.forall_mem_cons.mpr ⟨cdm107, List.forall_mem_cons.mpr ⟨cdm108, List.forall_mem_cons.mpr ⟨cdm109, List.forall_mem_cons.mpr ⟨cdm110, List.forall_mem_cons.mpr ⟨cdm111, List.forall_mem_cons.mpr ⟨cdm112, List.forall_mem_cons.mpr ⟨cdm113, List.forall_mem_cons.mpr ⟨cdm114, List.forall_mem_cons.mpr ⟨cdm115, List.forall_mem_cons.mpr ⟨cdm116, List.forall_mem_cons.mpr ⟨cdm117, List.forall_mem_cons.mpr ⟨cdm118, List.forall_mem_cons.mpr ⟨cdm119, List.forall_mem_cons.mpr ⟨cdm120, List.forall_mem_cons.mpr ⟨cdm121, List.forall_mem_cons.mpr ⟨cdm122, List.forall_mem_cons.mpr ⟨cdm123, List.forall_mem_cons.mpr ⟨cdm124, List.forall_mem_cons.mpr ⟨cdm125, List.forall_mem_cons.mpr ⟨cdm126, List.forall_mem_cons.mpr ⟨cdm127, fun _ h => absurd h List.not_mem_nil⟩⟩⟩⟩⟩⟩⟩⟩⟩⟩⟩⟩⟩⟩⟩⟩⟩⟩⟩⟩⟩⟩⟩⟩⟩⟩⟩⟩⟩⟩⟩⟩
def cdl4 : List Nat := [128, 129, 130, 131, 132, 133, 134, 135, 136, 137, 138, 139, 140, 141, 142, 143, 144, 145, 146, 147, 148, 149, 150, 151, 152, 153, 154, 155, 156, 157, 158, 159]
theorem cdl4_ok : ∀ j ∈ cdl4, cdA j ∈ lw_tbl := List.forall_mem_cons.mpr ⟨cdm128, List.forall_mem_cons.mpr ⟨cdm129, List.forall_mem_cons.mpr ⟨cdm130, List.forall_mem_cons.mpr ⟨cdm131, List.forall_mem_cons.mpr ⟨cdm132, List.forall_mem_cons.mpr ⟨cdm133, List.forall_mem_cons.mpr ⟨cdm134, List.forall_mem_cons.mpr ⟨cdm135, List.forall_mem_cons.mpr ⟨cdm136, List.forall_mem_cons.mpr ⟨cdm137, List.forall_mem_cons.mpr ⟨cdm138, List.forall_mem_cons.mpr ⟨cdm139, List.forall_mem_cons.mpr ⟨cdm140, List.forall_mem_cons.mpr ⟨cdm141, List.forall_mem_cons.mpr ⟨cdm142, List.forall_mem_cons.mpr ⟨cdm143, List.forall_mem_cons.mpr ⟨cdm144, List.forall_mem_cons.mpr ⟨cdm145, List.forall_mem_cons.mpr ⟨cdm146, List.forall_mem_cons.mpr ⟨cdm147, List.forall_mem_cons.mpr ⟨cdm148, List.forall_mem_cons.mpr ⟨cdm149, List.forall_mem_cons.mpr ⟨cdm150, List.forall_mem_cons.mpr ⟨cdm151, List.forall_mem_cons.mpr ⟨cdm152, List.forall_mem_cons.mpr ⟨cdm153, List.forall_mem_cons.mpr ⟨cdm154, List.forall_mem_cons.mpr ⟨cdm155, List.forall_mem_cons.mpr ⟨cdm156, List.forall_mem_cons.mpr ⟨cdm157, List.forall_mem_cons.mpr ⟨cdm158, List.forall_mem_cons.mpr ⟨cdm159, fun _ h => absurd h List.not_mem_nil⟩⟩⟩⟩⟩⟩⟩⟩⟩⟩⟩⟩⟩⟩⟩⟩⟩⟩⟩⟩⟩⟩⟩⟩⟩⟩⟩⟩⟩⟩⟩⟩
def cdl5 : List Nat := [160, 161, 162, 163, 164, 165, 166, 167, 168, 169, 170, 171, 172, 173, 174, 175, 176, 177, 178, 179, 180, 181, 182, 183, 184, 185, 186, 187, 188, 189, 190, 191]
theorem cdl5_ok : ∀ j ∈ cdl5, cdA j ∈ lw_tbl := List.forall_mem_cons.mpr ⟨cdm160, List.forall_mem_cons.mpr ⟨cdm161, List.forall_mem_cons.mpr ⟨cdm162, List.forall_mem_cons.mpr ⟨cdm163, List.forall_mem_cons.mpr ⟨cdm164, List.forall_mem_cons.mpr ⟨cdm165, List.forall_mem_cons.mpr ⟨cdm166, List.forall_mem_cons.mpr ⟨cdm167, List.forall_mem_cons.mpr ⟨cdm168, List.forall_mem_cons.mpr ⟨cdm169, List.forall_mem_cons.mpr ⟨cdm170, List.forall_mem_cons.mpr ⟨cdm171, List.forall_mem_cons.mpr ⟨cdm172, List.forall_mem_cons.mpr ⟨cdm173, List.forall_mem_cons.mpr ⟨cdm174, List.forall_mem_cons.mpr ⟨cdm175, List.forall_mem_cons.mpr ⟨cdm176, List.forall_mem_cons.mpr ⟨cdm177, List.forall_mem_cons.mpr ⟨cdm178, List.forall_mem_cons.mpr ⟨cdm179, List.forall_mem_cons.mpr ⟨cdm180, List.forall_mem_cons.mpr ⟨cdm181, List.forall_mem_cons.mpr ⟨cdm182, List.forall_mem_cons.mpr ⟨cdm183, List.forall_mem_cons.mpr ⟨cdm184, List.forall_mem_cons.mpr ⟨cdm185, List.forall_mem_cons.mpr ⟨cdm186, List.forall_mem_cons.mpr ⟨cdm187, List.forall_mem_cons.mpr ⟨cdm188, List.forall_mem_cons.mpr ⟨cdm189, List.forall_mem_cons.mpr ⟨cdm190, List.forall_mem_cons.mpr ⟨cdm191, fun _ h => absurd h List.not_mem_nil⟩⟩⟩⟩⟩⟩⟩⟩⟩⟩⟩⟩⟩⟩⟩⟩⟩⟩⟩⟩⟩⟩⟩⟩⟩⟩⟩⟩⟩⟩⟩⟩
def cdl6 : List Nat := [192, 193, 194, 195, 196, 197, 198, 199, 200, 201, 202, 203, 204, 205, 206, 207, 208, 209, 210, 211, 212, 213, 214, 215, 216, 217, 218, 219, 220, 221, 222, 223]
theorem cdl6_ok : ∀ j ∈ cdl6, cdA j ∈ lw_tbl := List.forall_mem_cons.mpr ⟨cdm192, List.forall_mem_cons.mpr ⟨cdm193, List.forall_mem_cons.mpr ⟨cdm194, List.forall_mem_cons.mpr ⟨cdm195, List.forall_mem_cons.mpr ⟨cdm196, List.forall_mem_cons.mpr ⟨cdm197, List.forall_mem_cons.mpr ⟨cdm198, List.forall_mem_cons.mpr ⟨cdm199, List.forall_mem_cons.mpr ⟨cdm200, List.forall_mem_cons.mpr ⟨cdm201, List.forall_mem_cons.mpr ⟨cdm202, List.forall_mem_cons.mpr ⟨cdm203, List.forall_mem_cons.mpr ⟨cdm204, List.forall_mem_cons.mpr ⟨cdm205, List.forall_mem_cons.mpr ⟨cdm206, List.forall_mem_cons.mpr ⟨cdm207, List.forall_mem_cons.mpr ⟨cdm208, List.forall_mem_cons.mpr ⟨cdm209, List.forall_mem_cons.mpr ⟨cdm210, List.forall_mem_cons.mpr ⟨cdm211, List.forall_mem_cons.mpr ⟨cdm212, List.forall_mem_cons.mpr ⟨cdm213, List.forall_mem_cons.mpr ⟨cdm214, List.forall_mem_cons.mpr ⟨cdm215, List.forall_mem_cons.mpr ⟨cdm216, List.forall_mem_cons.mpr ⟨cdm217, List.forall_mem_cons.mpr ⟨cdm218, List.forall_mem_cons.mpr ⟨cdm219, List.forall_mem_cons.mpr ⟨cdm220, List.forall_mem_cons.mpr ⟨cdm221, List.forall_mem_cons.mpr ⟨cdm222, List.forall_mem_cons.mpr ⟨cdm223, fun _ h => absurd h List.not_mem_nil⟩⟩⟩⟩⟩⟩⟩⟩⟩⟩⟩⟩⟩⟩⟩⟩⟩⟩⟩⟩⟩⟩⟩⟩⟩⟩⟩⟩⟩⟩⟩⟩
def cdl7 : List Nat := [224, 225, 226, 227, 228, 229, 230, 231, 232, 233, 234, 235, 236, 237, 238, 239, 240, 241, 242, 243, 244, 245, 246, 247, 248, 249, 250, 251, 252, 253]
theorem cdl7_ok : ∀ j ∈ cdl7, cdA j ∈ lw_tbl := List.forall_mem_cons.mpr ⟨cdm224, List.forall_mem_cons.mpr ⟨cdm225, List.forall_mem_cons.mpr ⟨cdm226, List.forall_mem_cons.mpr ⟨cdm227, List.forall_mem_cons.mpr ⟨cdm228, List.forall_mem_cons.mpr ⟨cdm229, List.forall_mem_cons.mpr ⟨cdm230, List.forall_mem_cons.mpr ⟨cdm231, List.forall_mem_cons.mpr ⟨cdm232, List.forall_mem_cons.mpr ⟨cdm233, List.forall_mem_cons.mpr ⟨cdm234, List.forall_mem_cons.mpr ⟨cdm235, List.forall_mem_cons.mpr ⟨cdm236, List.forall_mem_cons.mpr ⟨cdm237, List.forall_mem_cons.mpr ⟨cdm238, List.forall_mem_cons.mpr ⟨cdm239, List.forall_mem_cons.mpr ⟨cdm240, List.forall_mem_cons.mpr ⟨cdm241, List.forall_mem_cons.mpr ⟨cdm242, List.forall_mem_cons.mpr ⟨cdm243, List.forall_mem_cons.mpr ⟨cdm244, List.forall_mem_cons.mpr ⟨cdm245, List.forall_mem_cons.mpr ⟨cdm246, List.forall_mem_cons.mpr ⟨cdm247, List.forall_mem_cons.mpr ⟨cdm248, List.forall_mem_cons.mpr ⟨cdm249, List.forall_mem_cons.mpr ⟨cdm250, List.forall_mem_cons.mpr ⟨cdm251, List.forall_mem_cons.mpr ⟨cdm252, List.forall_mem_cons.mpr ⟨cdm253, fun _ h => absurd h List.not_mem_nil⟩⟩⟩⟩⟩⟩⟩⟩⟩⟩⟩⟩⟩⟩⟩⟩⟩⟩⟩⟩⟩⟩⟩⟩⟩⟩⟩⟩⟩⟩
def cdl : List Nat := cdl0 ++ (cdl1 ++ (cdl2 ++ (cdl3 ++ (cdl4 ++ (cdl5 ++ (cdl6 ++ (cdl7)))))))
theorem cdl_ok : ∀ j ∈ cdl, cdA j ∈ lw_tbl := List.forall_mem_append.mpr ⟨cdl0_ok, List.forall_mem_append.mpr ⟨cdl1_ok, List.forall_mem_append.mpr ⟨cdl2_ok, List.forall_mem_append.mpr ⟨cdl3_ok, List.forall_mem_append.mpr ⟨cdl4_ok, List.forall_mem_append.mpr ⟨cdl5_ok, List.forall_mem_append.mpr ⟨cdl6_ok, cdl7_ok⟩⟩⟩⟩⟩⟩⟩
theorem cd_all : ∀ j, j < 254 → j ∈ cdl := by decide +kernel
theorem cd_mem {j : Nat} (h : j < 254) : cdA j ∈ lw_tbl := cdl_ok j (cd_all j h)
def siA (j : Nat) : Cond := bif (mt j).2.2.2.2.1 then Cond.static (my j) else Cond.instanceMethod (my j)
theorem si_in : ∀ w ∈ (List.range 254).map siA, w ∈ lw_tbl := inBy [689, 528, 534, 286, 617, 1085, 771, 318, 724, 1089, 513, 172, 733, 1081, 642, 646, 840, 775, 100, 662, 135, 580, 555, 560, 564, 568, 573, 962, 667, 676, 672, 680, 163, 593, 1077, 683, 755, 728, 810, 894, 885, 795, 791, 924, 814, 638, 752, 759, 747, 898, 976, 984, 990, 1030, 1008, 1012, 998, 1004, 831, 404, 470, 501, 462, 517, 474, 385, 542, 129, 1072, 602, 629, 625, 787, 509, 589, 613, 658, 949, 743, 763, 768, 799, 804, 823, 828, 717, 721, 868, 877, 633, 848, 857, 1038, 1048, 1053, 1058, 1043, 902, 906, 932, 852, 1021, 90, 444, 466, 482, 489, 493, 497, 522, 538, 547, 551, 585, 598, 609, 621, 650, 654, 739, 779, 783, 819, 844, 863, 873, 881, 890, 910, 915, 920, 928, 937, 941, 945, 953, 958, 966, 972, 980, 994, 1017, 1026, 1034, 1064, 1068, 1094, 1098, 459, 577, 1108, 449, 1104, 506, 452, 455, 606, 479, 1113, 1174, 1178, 1469, 1228, 1212, 1240, 1314, 1310, 1306, 1298, 1270, 1274, 1294, 1169, 1181, 1194, 1190, 1200, 1185, 1203, 1224, 1232, 1220, 1215, 1235, 1243, 1334, 1266, 1258, 1262, 1359, 1355, 1338, 1247, 1254, 1290, 1286, 1302, 1282, 1277, 1317, 1343, 1326, 1330, 1351, 1321, 1346, 1362, 1366, 1370, 1374, 1388, 1384, 1379, 1391, 1396, 1399, 1403, 1413, 1417, 1421, 1407, 1424, 1429, 1433, 1437, 1441, 1450, 1445, 1453, 1457, 1466, 1461, 1472, 1476, 1484, 1480, 1492, 1488, 1495, 1499, 1503, 1507, 1516, 1511, 1519, 1529, 1534, 1523, 1537, 1541, 1545, 1554, 1558, 1549] (by decide +kernel)
theorem si_mem {j : Nat} (h : j < 254) : siA j ∈ lw_tbl := si_in _ (List.mem_map.mpr ⟨j, List.mem_range.mpr h, rfl⟩)
theorem ini_in : ∀ w ∈ (List.range 14).map (fun c => Cond.initialized (ownS c)), w ∈ lw_tbl := inBy [85, 79, 80, 78, 75, 76, 77, 82, 81, 74, 73, 83, 72, 86] (by decide +kernel)
theorem ini_mem {c : Nat} (h : c < 14) : Cond.initialized (ownS c) ∈ lw_tbl := ini_in _ (List.mem_map.mpr ⟨c, List.mem_range.mpr h, rfl⟩)
theorem ins_in : ∀ w ∈ (List.range 12).map (fun c => Cond.instantiable (clT c).1 (clT c).2.2), w ∈ lw_tbl := inBy [687, 284, 316, 170, 98, 133, 161, 402, 383, 96, 88, 1111] (by decide +kernel)
theorem ins_mem {c : Nat} (h : c < 12) : Cond.instantiable (clT c).1 (clT c).2.2 ∈ lw_tbl := ins_in _ (List.mem_map.mpr ⟨c, List.mem_range.mpr h, rfl⟩)
theorem w_oin : Cond.instanceMethod objectInit ∈ lw_tbl := in_tables_1_1 _ (List.mem_of_getElem? (i := 21) (by decide +kernel))
set_option maxRecDepth 100000 in
theorem w_oco : Cond.code objectInit ⟨#[0xb1]⟩ 1 none ∈ lw_tbl := in_tables_1_1 _ (List.mem_of_getElem? (i := 22) rfl)
theorem w_anat : Cond.native arraycopyName ∈ lw_tbl := in_tables_1_2 _ (List.mem_of_getElem? (i := 175) (by decide +kernel))
theorem w_asta : Cond.static arraycopyName ∈ lw_tbl := in_tables_1_2 _ (List.mem_of_getElem? (i := 174) (by decide +kernel))
theorem w_aini : Cond.initialized "java/lang/System" ∈ lw_tbl := in_tables_1_1 _ (List.mem_of_getElem? (i := 12) (by decide +kernel))
theorem w_maxs : Cond.static Lib.Math.max.name ∈ lw_tbl := in_tables_1_4 _ (List.mem_of_getElem? (i := 45) (by decide +kernel))
set_option maxRecDepth 100000 in
theorem w_maxc : Cond.code Lib.Math.max.name Lib.Math.max.code 2 (some .int) ∈ lw_tbl := in_tables_1_4 _ (List.mem_of_getElem? (i := 46) rfl)
theorem w_mins : Cond.static Lib.Math.min.name ∈ lw_tbl := in_tables_1_4 _ (List.mem_of_getElem? (i := 15) (by decide +kernel))
set_option maxRecDepth 100000 in
theorem w_minc : Cond.code Lib.Math.min.name Lib.Math.min.code 2 (some .int) ∈ lw_tbl := in_tables_1_4 _ (List.mem_of_getElem? (i := 16) rfl)
theorem w_acint : Cond.arrayClass .int ∈ lw_tbl := in_tables_1_1 _ (List.mem_of_getElem? (i := 55) (by decide +kernel))
theorem w_aclong : Cond.arrayClass .long ∈ lw_tbl := in_tables_1_2 _ (List.mem_of_getElem? (i := 111) (by decide +kernel))
theorem w_ao1 : Cond.arrayOver (.object (clT 1).1) ∈ lw_tbl := in_tables_1_1 _ (List.mem_of_getElem? (i := 211) (by decide +kernel))
theorem w_ao2 : Cond.arrayOver (.object (clT 2).1) ∈ lw_tbl := in_tables_1_2 _ (List.mem_of_getElem? (i := 3) (by decide +kernel))
theorem w_ao3 : Cond.arrayOver (.object (clT 3).1) ∈ lw_tbl := in_tables_1_1 _ (List.mem_of_getElem? (i := 97) (by decide +kernel))
theorem w_ao6 : Cond.arrayOver (.object (clT 6).1) ∈ lw_tbl := in_tables_1_1 _ (List.mem_of_getElem? (i := 88) (by decide +kernel))
theorem w_ao7 : Cond.arrayOver (.object (clT 7).1) ∈ lw_tbl := in_tables_1_2 _ (List.mem_of_getElem? (i := 89) (by decide +kernel))
theorem w_lsKIND_ABOVE : Cond.laysStatic "CreditBroker" "KIND_ABOVE" "[I" ∈ lw_tbl := in_tables_1_2 _ (List.mem_of_getElem? (i := 214) (by decide +kernel))
theorem w_lsWAITS : Cond.laysStatic "CreditBroker" "WAITS" "[I" ∈ lw_tbl := in_tables_1_4 _ (List.mem_of_getElem? (i := 42) (by decide +kernel))
theorem w_fn0 : Cond.fieldLinkNest "CreditBroker$Cause" 31 "CreditBroker" "KIND_ABOVE" "[I" "CreditBroker" ∈ lw_tbl := in_tables_1_2 _ (List.mem_of_getElem? (i := 219) (by decide +kernel))
theorem w_fn1 : Cond.fieldLinkNest "CreditBroker$Queue" 158 "CreditBroker" "WAITS" "[I" "CreditBroker" ∈ lw_tbl := in_tables_1_4 _ (List.mem_of_getElem? (i := 41) (by decide +kernel))
theorem w_fsKIND_ABOVE : Cond.fieldLink "CreditBroker" 111 "CreditBroker" "KIND_ABOVE" "[I" ∈ lw_tbl := in_tables_1_2 _ (List.mem_of_getElem? (i := 213) (by decide +kernel))
def vms : List Nat := [1, 2, 4, 5, 6, 8, 9, 10, 12, 13, 14, 15, 16, 17, 19, 21, 22, 23, 24, 25, 26, 27, 28, 29, 30, 31, 33, 34, 35, 36, 37, 38, 39, 40, 41, 42, 43, 44, 45, 46, 48, 49, 50, 51, 52, 53, 54, 55, 56, 57, 60, 61, 62, 63, 64, 66, 68, 69, 70, 71, 72, 73, 74, 75, 76, 77, 78, 79, 80, 81, 82, 83, 84, 85, 86, 87, 88, 89, 90, 91, 92, 93, 94, 95, 96, 97, 98, 99, 100, 101, 103, 104, 105, 106, 107, 108, 109, 110, 111, 112, 113, 114, 115, 116, 117, 118, 119, 120, 121, 122, 123, 124, 125, 126, 127, 128, 129, 130, 131, 132, 133, 134, 135, 136, 137, 138, 139, 140, 141, 142, 143, 144, 145, 146, 147, 148, 149, 150, 151, 152, 153, 160, 162, 163, 164, 165, 166, 167, 168, 169, 170, 171, 172, 173, 174, 175, 176, 177, 178, 179, 180, 181, 182, 183, 184, 185, 186, 187, 188, 189, 190, 191, 192, 193, 194, 195, 196, 197, 198, 199, 200, 201, 202, 203, 204, 205, 206, 207, 208, 209, 210, 211, 212, 213, 214, 215, 216, 217, 218, 219, 220, 221, 222, 223, 224, 225, 226, 227, 228, 229, 230, 231, 232, 233, 235, 237, 238, 239, 240, 241, 243, 244, 245, 246, 247, 248, 249, 250, 251, 252, 253]
theorem sel_in : ∀ w ∈ vms.map (fun j => Cond.selects (my j).cls (my j) (my j)), w ∈ lw_tbl := inBy [529, 535, 618, 1086, 772, 725, 1090, 514, 734, 1082, 643, 647, 841, 776, 663, 581, 556, 3, 4, 5, 6, 963, 668, 9, 8, 10, 594, 1078, 684, 756, 729, 811, 895, 886, 796, 792, 925, 815, 639, 13, 748, 899, 977, 985, 18, 1031, 20, 1013, 999, 19, 471, 502, 463, 518, 475, 543, 1073, 603, 630, 626, 788, 510, 590, 614, 659, 950, 744, 764, 14, 800, 15, 824, 16, 11, 12, 869, 878, 634, 849, 17, 1039, 22, 23, 24, 21, 903, 907, 933, 853, 1022, 445, 467, 483, 490, 494, 498, 523, 539, 548, 552, 586, 599, 610, 622, 651, 655, 740, 780, 784, 820, 845, 864, 874, 882, 891, 911, 916, 921, 929, 938, 942, 946, 954, 959, 967, 973, 981, 995, 1018, 1027, 1035, 1065, 1069, 1095, 1099, 1, 7, 26, 0, 25, 2, 27, 34, 31, 36, 51, 50, 49, 47, 41, 42, 46, 1170, 1182, 29, 28, 30, 1186, 1204, 33, 35, 32, 1216, 1236, 1244, 54, 40, 38, 39, 59, 58, 55, 1248, 37, 45, 44, 48, 43, 1278, 1318, 56, 52, 53, 57, 1322, 1347, 1363, 1367, 1371, 1375, 61, 60, 1380, 1392, 62, 1400, 1404, 63, 64, 65, 1408, 1425, 1430, 1434, 1438, 1442, 66, 1446, 1454, 1458, 67, 1462, 1473, 1477, 1481, 1489, 1496, 1500, 1504, 1508, 1512, 1520, 68, 69, 1524, 1538, 1542, 1546, 70, 71, 1550] (by decide +kernel)
theorem sel_mem {j : Nat} (h : vms.contains j = true) : Cond.selects (my j).cls (my j) (my j) ∈ lw_tbl := sel_in _ (List.mem_map.mpr ⟨j, by simpa using h, rfl⟩)
def gnm (x : Nat) : String := bif Nat.beq x 0 then "KIND_ABOVE" else "WAITS"
def GSp : List (Nat × Nat × Nat) := [(10, 111, 0)]
theorem GSp_in : ∀ w ∈ GSp.map (fun q => Cond.fieldLink (ownS q.1) q.2.1 "CreditBroker" (gnm q.2.2) "[I"), w ∈ lw_tbl := inBy [525] (by decide +kernel)
theorem GSp_mem (q : Nat × Nat × Nat) (h : GSp.contains q = true) : (Cond.fieldLink (ownS q.1) q.2.1 "CreditBroker" (gnm q.2.2) "[I") ∈ lw_tbl := GSp_in _ (List.mem_map.mpr ⟨q, by simpa using h, rfl⟩)
def GSn : List (Nat × Nat × Nat) := [(0, 31, 0), (6, 158, 1)]
theorem GSn_in : ∀ w ∈ GSn.map (fun q => Cond.fieldLinkNest (ownS q.1) q.2.1 "CreditBroker" (gnm q.2.2) "[I" "CreditBroker"), w ∈ lw_tbl := inBy [531, 833] (by decide +kernel)
theorem GSn_mem (q : Nat × Nat × Nat) (h : GSn.contains q = true) : (Cond.fieldLinkNest (ownS q.1) q.2.1 "CreditBroker" (gnm q.2.2) "[I" "CreditBroker") ∈ lw_tbl := GSn_in _ (List.mem_map.mpr ⟨q, by simpa using h, rfl⟩)
theorem cini : ∀ x, x < 12 → Cond.initialized (clT x).1 ∈ lw_tbl
  | 0, _ => ini_mem (c := 0) (by decide)
  | 1, _ => ini_mem (c := 1) (by decide)
  | 2, _ => ini_mem (c := 2) (by decide)
  | 3, _ => ini_mem (c := 3) (by decide)
  | 4, _ => ini_mem (c := 4) (by decide)
  | 5, _ => ini_mem (c := 5) (by decide)
  | 6, _ => ini_mem (c := 6) (by decide)
  | 7, _ => ini_mem (c := 7) (by decide)
  | 8, _ => ini_mem (c := 8) (by decide)
  | 9, _ => ini_mem (c := 9) (by decide)
  | 10, _ => ini_mem (c := 10) (by decide)
  | 11, _ => ini_mem (c := 11) (by decide)
  | n + 12, h => absurd h (by omega)
