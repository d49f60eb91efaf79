def tw : List Cond := lw_tbl.filter goodWord
theorem tw_good {ws : List Cond} (h : ∀ w ∈ ws, w ∈ tw) : GoodIn tw ws := fun w hw => ⟨h w hw, good_of_word (List.mem_filter.mp (h w hw)).2⟩
def isNst : Cond → Bool
  | .fieldLinkNest _ _ _ _ _ _ => true
  | .methodLinkNest _ _ _ _ => true
  | _ => false
def nst : List Cond := lw_tbl.filter isNst
def cnl : List String := [RX0, RX1, RX2, RX3, RX4, RX5, RX6, RX7, RX8, RX9, RX10, RX11, RX12, RL, RJ0, RJ1, RJ2, RJ11, RJ6, RJ13, RJ9, RJ10, RJ7, RJ3, "java/lang/Object"]
def cnm (o : Nat) : String := cnl.getD o ""
def lkF : List (Nat × Nat × Nat × Nat × Nat × Nat) := [(11, 12, 11, 0, 0, 324), (11, 21, 11, 1, 0, 325), (11, 27, 11, 2, 0, 326), (11, 34, 11, 4, 0, 328), (11, 41, 11, 5, 0, 329), (11, 48, 11, 6, 0, 330), (11, 52, 11, 7, 0, 331), (11, 58, 11, 9, 0, 333), (11, 64, 11, 10, 0, 334), (11, 71, 11, 12, 0, 336), (11, 78, 11, 13, 0, 337), (11, 82, 11, 14, 0, 338), (11, 90, 10, 1, 1, 112), (11, 117, 10, 3, 1, 115), (11, 122, 10, 4, 1, 120), (11, 148, 2, 4, 1, 427), (11, 154, 2, 0, 1, 419), (11, 157, 2, 1, 1, 421), (11, 160, 2, 2, 1, 423), (11, 163, 2, 3, 1, 425), (11, 188, 7, 3, 1, 145), (11, 194, 7, 4, 1, 147), (11, 210, 11, 3, 0, 327), (11, 230, 0, 4, 1, 611), (11, 243, 0, 3, 1, 609), (11, 265, 0, 1, 1, 605), (11, 268, 0, 2, 1, 607), (11, 271, 6, 1, 1, 271), (11, 278, 5, 4, 1, 182), (11, 282, 5, 0, 1, 174), (11, 285, 5, 1, 1, 176), (11, 288, 5, 2, 1, 178), (11, 291, 5, 3, 1, 180), (11, 294, 9, 1, 1, 202), (11, 304, 9, 2, 1, 204), (11, 307, 11, 8, 0, 332), (11, 311, 1, 3, 1, 228), (11, 334, 11, 11, 0, 335), (11, 344, 4, 3, 1, 1048), (11, 353, 4, 4, 1, 1049), (11, 360, 4, 0, 1, 1043), (11, 363, 4, 1, 1, 1045), (11, 366, 4, 2, 1, 1047), (11, 369, 6, 0, 1, 269), (11, 385, 6, 9, 1, 282), (11, 388, 6, 8, 1, 280), (11, 394, 6, 3, 1, 274), (11, 397, 6, 2, 1, 273), (11, 415, 8, 1, 1, 317), (11, 417, 8, 0, 1, 313), (0, 9, 0, 3, 0, 608), (0, 15, 0, 5, 0, 612), (0, 19, 0, 6, 0, 613), (0, 22, 0, 7, 0, 614), (0, 25, 0, 0, 0, 603), (0, 29, 0, 1, 0, 604), (0, 32, 10, 4, 1, 119), (0, 37, 0, 2, 0, 606), (0, 50, 0, 4, 0, 610), (0, 53, 10, 3, 1, 116), (1, 9, 1, 0, 0, 224), (1, 15, 1, 2, 0, 226), (1, 18, 1, 6, 0, 231), (1, 29, 1, 4, 0, 229), (1, 33, 1, 1, 0, 225), (1, 37, 1, 3, 0, 227), (1, 64, 1, 5, 0, 230), (1, 115, 1, 7, 0, 232), (2, 9, 2, 4, 0, 426), (2, 15, 2, 6, 0, 429), (2, 19, 2, 7, 0, 430), (2, 22, 2, 0, 0, 417), (2, 25, 2, 5, 0, 428), (2, 28, 2, 1, 0, 420), (2, 31, 2, 2, 0, 422), (2, 34, 2, 3, 0, 424), (2, 37, 2, 8, 0, 431), (3, 9, 3, 0, 0, 256), (4, 7, 4, 0, 0, 1042), (4, 13, 4, 1, 0, 1044), (4, 16, 4, 2, 0, 1046), (5, 9, 5, 0, 0, 173), (5, 15, 5, 1, 0, 175), (5, 18, 5, 2, 0, 177), (5, 21, 5, 3, 0, 179), (5, 24, 5, 4, 0, 181), (6, 9, 6, 0, 0, 268), (6, 13, 6, 1, 0, 270), (6, 16, 6, 2, 0, 272), (6, 19, 6, 4, 0, 275), (6, 22, 8, 1, 1, 315), (6, 34, 8, 0, 1, 311), (6, 44, 6, 5, 0, 276), (6, 47, 6, 6, 0, 277), (6, 50, 6, 7, 0, 278), (6, 53, 6, 8, 0, 279), (6, 56, 6, 9, 0, 281), (7, 9, 7, 1, 0, 142), (7, 15, 7, 2, 0, 143), (7, 18, 7, 4, 0, 146), (7, 21, 7, 5, 0, 148), (7, 24, 7, 0, 0, 141), (7, 28, 7, 3, 0, 144), (7, 37, 8, 1, 1, 316), (7, 42, 8, 0, 1, 312), (7, 61, 7, 6, 0, 149), (7, 72, 10, 3, 1, 118), (7, 81, 10, 4, 1, 121), (7, 90, 2, 0, 1, 418), (8, 9, 8, 0, 0, 310), (8, 13, 8, 1, 0, 314), (9, 9, 9, 0, 0, 200), (9, 13, 9, 1, 0, 201), (9, 17, 9, 3, 0, 205), (9, 23, 9, 2, 0, 203), (9, 33, 9, 4, 0, 206), (10, 9, 10, 0, 0, 111), (10, 17, 10, 2, 0, 114), (10, 25, 10, 1, 0, 113), (10, 38, 10, 3, 0, 117), (10, 53, 10, 4, 0, 122), (12, 7, 12, 3, 0, 1220), (12, 13, 12, 5, 0, 1222), (12, 16, 12, 6, 0, 1223), (12, 19, 12, 7, 0, 1224), (12, 22, 12, 8, 0, 1225), (12, 25, 12, 9, 0, 1226), (12, 28, 12, 10, 0, 1227), (12, 31, 12, 11, 0, 1228), (12, 34, 12, 12, 0, 1229), (12, 37, 12, 14, 0, 1231), (12, 40, 12, 15, 0, 1232), (12, 43, 12, 17, 0, 1234), (12, 46, 12, 18, 0, 1235), (12, 49, 12, 19, 0, 1236), (12, 52, 12, 20, 0, 1237), (12, 55, 12, 21, 0, 1238), (12, 58, 12, 22, 0, 1239), (12, 61, 12, 23, 0, 1240), (12, 64, 12, 24, 0, 1241), (12, 67, 12, 28, 0, 1245), (12, 70, 12, 30, 0, 1247), (12, 73, 12, 31, 0, 1248), (12, 76, 12, 32, 0, 1249), (12, 79, 12, 33, 0, 1250), (12, 82, 12, 34, 0, 1251), (12, 85, 12, 35, 0, 1252), (12, 88, 12, 36, 0, 1253), (12, 91, 12, 37, 0, 1254), (12, 95, 12, 38, 0, 1255), (12, 98, 12, 40, 0, 1257), (12, 101, 12, 41, 0, 1258), (12, 104, 12, 42, 0, 1259), (12, 108, 12, 43, 0, 1260), (12, 111, 12, 44, 0, 1261), (12, 115, 12, 45, 0, 1262), (12, 118, 12, 46, 0, 1263), (12, 121, 12, 48, 0, 1265), (12, 124, 12, 49, 0, 1266), (12, 127, 12, 50, 0, 1267), (12, 130, 12, 51, 0, 1268), (12, 133, 12, 61, 0, 1278), (12, 136, 12, 62, 0, 1279), (12, 143, 12, 2, 0, 1219), (12, 150, 12, 4, 0, 1221), (12, 153, 12, 16, 0, 1233), (12, 166, 12, 1, 0, 1218), (12, 182, 12, 13, 0, 1230), (12, 231, 12, 47, 0, 1264), (12, 237, 12, 25, 0, 1242), (12, 243, 12, 52, 0, 1269), (12, 247, 12, 26, 0, 1243), (12, 250, 12, 53, 0, 1270), (12, 253, 12, 55, 0, 1272), (12, 256, 12, 54, 0, 1271), (12, 268, 12, 56, 0, 1273), (12, 284, 12, 60, 0, 1277), (12, 294, 12, 59, 0, 1276), (12, 297, 12, 58, 0, 1275), (12, 309, 12, 57, 0, 1274), (12, 338, 12, 27, 0, 1244), (12, 357, 12, 29, 0, 1246), (12, 390, 12, 39, 0, 1256)]
def lkM : List (Nat × Nat × Nat × Nat × Nat) := [(11, 11, 49, 1, 105), (11, 18, 259, 0, 137), (11, 33, 247, 1, 169), (11, 40, 274, 1, 196), (11, 47, 217, 1, 220), (11, 57, 240, 1, 252), (11, 70, 251, 1, 264), (11, 77, 269, 1, 306), (11, 85, 52, 0, 374), (11, 95, 44, 0, 382), (11, 99, 47, 0, 391), (11, 102, 51, 0, 395), (11, 106, 100, 0, 400), (11, 110, 80, 0, 407), (11, 113, 83, 0, 410), (11, 125, 236, 0, 413), (11, 128, 45, 0, 451), (11, 132, 53, 0, 459), (11, 136, 237, 0, 463), (11, 140, 235, 0, 467), (11, 145, 234, 0, 472), (11, 151, 232, 0, 484), (11, 166, 69, 0, 493), (11, 169, 260, 0, 501), (11, 172, 256, 0, 505), (11, 176, 113, 0, 515), (11, 180, 270, 0, 519), (11, 184, 257, 0, 524), (11, 191, 261, 0, 538), (11, 198, 54, 0, 564), (11, 201, 264, 0, 576), (11, 204, 263, 0, 580), (11, 207, 265, 0, 584), (11, 213, 39, 0, 598), (11, 216, 61, 0, 636), (11, 220, 34, 0, 640), (11, 223, 36, 0, 644), (11, 226, 40, 0, 649), (11, 233, 41, 0, 657), (11, 236, 35, 0, 671), (11, 239, 37, 0, 675), (11, 246, 78, 0, 687), (11, 249, 218, 0, 690), (11, 253, 77, 0, 780), (11, 257, 43, 0, 784), (11, 261, 242, 0, 812), (11, 274, 246, 0, 825), (11, 297, 271, 0, 863), (11, 300, 223, 0, 875), (11, 314, 86, 0, 983), (11, 318, 82, 0, 1013), (11, 321, 79, 0, 1021), (11, 324, 241, 0, 1029), (11, 328, 229, 0, 987), (11, 331, 76, 0, 1034), (11, 337, 243, 0, 1038), (11, 340, 58, 0, 1061), (11, 347, 13, 0, 1066), (11, 356, 97, 0, 1076), (11, 372, 255, 0, 1092), (11, 382, 91, 0, 1110), (11, 391, 56, 0, 1114), (11, 400, 250, 0, 1160), (11, 403, 233, 0, 1172), (11, 412, 267, 0, 1179), (11, 421, 268, 0, 1195), (11, 430, 55, 0, 1206), (11, 433, 57, 0, 1122), (11, 436, 254, 0, 1126), (0, 40, 30, 0, 602), (0, 46, 83, 1, 648), (0, 56, 36, 0, 661), (0, 60, 50, 0, 662), (0, 63, 40, 0, 666), (0, 67, 239, 0, 788), (0, 72, 42, 0, 793), (0, 76, 238, 0, 797), (0, 80, 48, 0, 802), (0, 83, 100, 1, 807), (0, 87, 241, 0, 808), (0, 91, 46, 0, 837), (0, 95, 35, 0, 850), (1, 23, 6, 0, 694), (1, 40, 280, 0, 879), (1, 45, 226, 0, 902), (1, 53, 275, 0, 975), (1, 57, 276, 0, 906), (1, 61, 273, 0, 931), (1, 67, 224, 0, 932), (1, 71, 225, 0, 936), (1, 75, 281, 0, 962), (1, 79, 220, 0, 970), (1, 83, 231, 0, 948), (1, 87, 279, 0, 940), (1, 91, 228, 0, 944), (1, 95, 278, 0, 952), (1, 98, 219, 0, 956), (1, 102, 227, 0, 966), (1, 105, 218, 0, 960), (1, 110, 83, 1, 991), (1, 118, 230, 0, 992), (1, 122, 221, 0, 1001), (1, 125, 242, 0, 996), (1, 130, 222, 0, 997), (1, 133, 100, 1, 1005), (1, 137, 216, 0, 1006), (3, 13, 30, 0, 792), (3, 19, 78, 1, 801), (5, 28, 33, 0, 829), (5, 34, 32, 0, 833), (5, 38, 245, 0, 838), (5, 41, 244, 0, 842), (5, 45, 248, 0, 851), (5, 48, 38, 0, 846), (6, 38, 83, 1, 1097), (6, 59, 249, 0, 1130), (6, 63, 253, 0, 1134), (6, 67, 29, 0, 1138), (6, 73, 252, 0, 1164), (7, 32, 260, 0, 509), (7, 46, 80, 1, 528), (7, 50, 256, 0, 529), (7, 55, 30, 0, 543), (7, 65, 262, 0, 546), (7, 69, 266, 0, 550), (7, 77, 53, 0, 554), (7, 84, 232, 0, 555), (7, 93, 258, 0, 556), (7, 96, 100, 1, 559), (7, 100, 46, 0, 588), (8, 17, 31, 0, 1183), (9, 20, 273, 0, 883), (9, 26, 272, 0, 887), (9, 30, 282, 0, 891), (9, 36, 100, 1, 897), (9, 42, 277, 0, 898), (9, 46, 78, 1, 895), (9, 49, 83, 1, 896), (9, 53, 9, 0, 910), (9, 58, 2, 0, 911), (10, 21, 83, 1, 377), (10, 30, 47, 0, 399), (10, 34, 51, 0, 806), (10, 41, 53, 0, 572), (10, 46, 232, 0, 574), (10, 50, 46, 0, 568), (10, 56, 100, 1, 575), (10, 60, 235, 0, 1210), (10, 64, 50, 0, 1065), (10, 67, 233, 0, 1118), (13, 9, 75, 0, 97), (13, 12, 148, 0, 1213), (13, 13, 62, 0, 370), (13, 17, 125, 0, 1408), (13, 18, 81, 0, 387), (13, 22, 158, 0, 1417), (13, 23, 93, 0, 403), (13, 27, 178, 0, 1429), (13, 28, 94, 0, 455), (13, 31, 179, 0, 1433), (13, 32, 88, 0, 476), (13, 35, 172, 0, 1446), (13, 36, 99, 0, 480), (13, 39, 186, 0, 1450), (13, 40, 116, 0, 489), (13, 43, 213, 0, 1459), (13, 44, 89, 0, 497), (13, 47, 173, 0, 1463), (13, 48, 106, 0, 511), (13, 51, 198, 0, 1467), (13, 52, 118, 0, 530), (13, 56, 215, 0, 1476), (13, 57, 84, 0, 534), (13, 60, 166, 0, 1480), (13, 61, 107, 0, 560), (13, 64, 199, 0, 1495), (13, 65, 70, 0, 589), (13, 68, 137, 0, 1499), (13, 69, 101, 0, 593), (13, 72, 189, 0, 1503), (13, 73, 110, 0, 632), (13, 76, 203, 0, 1507), (13, 77, 111, 0, 653), (13, 80, 204, 0, 1519), (13, 81, 60, 0, 667), (13, 85, 123, 0, 1531), (13, 86, 64, 0, 679), (13, 89, 130, 0, 1535), (13, 90, 95, 0, 683), (13, 93, 180, 0, 1539), (13, 94, 59, 0, 817), (13, 97, 119, 0, 1554), (13, 98, 103, 0, 821), (13, 101, 193, 0, 1558), (13, 102, 102, 0, 855), (13, 105, 192, 0, 1574), (13, 106, 72, 0, 859), (13, 109, 139, 0, 1578), (13, 110, 117, 0, 867), (13, 113, 214, 0, 1585), (13, 114, 85, 0, 871), (13, 117, 170, 0, 1589), (13, 118, 109, 0, 979), (13, 121, 201, 0, 1656), (13, 122, 114, 0, 1009), (13, 125, 206, 0, 1668), (13, 126, 90, 0, 1017), (13, 129, 174, 0, 1676), (13, 130, 68, 0, 1025), (13, 133, 135, 0, 1684), (13, 134, 96, 0, 1030), (13, 137, 183, 0, 1688), (13, 138, 98, 0, 1072), (13, 141, 184, 0, 1699), (13, 142, 74, 0, 1080), (13, 145, 146, 0, 1703), (13, 146, 73, 0, 1084), (13, 149, 143, 0, 1707), (13, 150, 87, 0, 1088), (13, 153, 171, 0, 1711), (13, 154, 108, 0, 1098), (13, 157, 200, 0, 1715), (13, 158, 104, 0, 1106), (13, 161, 195, 0, 1731), (13, 162, 105, 0, 1144), (13, 165, 196, 0, 1762), (13, 166, 66, 0, 1148), (13, 169, 132, 0, 1719), (13, 170, 115, 0, 1152), (13, 173, 210, 0, 1766), (13, 174, 63, 0, 1156), (13, 177, 129, 0, 1770), (13, 178, 71, 0, 1168), (13, 181, 138, 0, 1774), (13, 182, 112, 0, 1174), (13, 185, 205, 0, 1778), (13, 186, 92, 0, 1186), (13, 189, 177, 0, 1783), (13, 190, 65, 0, 1191), (13, 194, 131, 0, 1788), (13, 195, 67, 0, 1202), (13, 198, 134, 0, 1792), (12, 146, 147, 0, 1412), (12, 158, 150, 0, 1421), (12, 162, 159, 0, 1425), (12, 169, 157, 0, 1437), (12, 172, 126, 0, 1441), (12, 178, 187, 0, 1454), (12, 185, 161, 0, 1471), (12, 189, 173, 0, 1475), (12, 192, 140, 0, 1492), (12, 195, 167, 0, 1488), (12, 199, 168, 0, 1484), (12, 202, 153, 0, 1527), (12, 205, 149, 0, 1511), (12, 208, 191, 0, 1515), (12, 211, 152, 0, 1523), (12, 214, 181, 0, 1543), (12, 217, 163, 0, 1546), (12, 220, 169, 0, 1550), (12, 224, 145, 0, 1566), (12, 227, 120, 0, 1570), (12, 234, 194, 0, 1562), (12, 240, 127, 0, 1582), (12, 259, 122, 0, 1597), (12, 262, 154, 0, 1601), (12, 265, 151, 0, 1604), (12, 271, 9, 0, 1616), (12, 277, 2, 0, 1617), (12, 281, 182, 0, 1593), (12, 287, 209, 0, 1618), (12, 291, 162, 0, 1646), (12, 300, 188, 0, 1642), (12, 303, 190, 0, 1622), (12, 306, 185, 0, 1650), (12, 312, 211, 0, 1638), (12, 315, 208, 0, 1634), (12, 318, 212, 0, 1630), (12, 321, 121, 0, 1626), (12, 324, 165, 0, 1612), (12, 330, 197, 0, 1608), (12, 341, 142, 0, 1664), (12, 344, 202, 0, 1660), (12, 348, 207, 0, 1672), (12, 351, 175, 0, 1680), (12, 354, 155, 0, 1692), (12, 360, 156, 0, 1696), (12, 363, 136, 0, 1727), (12, 366, 133, 0, 1723), (12, 369, 164, 0, 1743), (12, 372, 144, 0, 1747), (12, 375, 176, 0, 1751), (12, 378, 128, 0, 1754), (12, 381, 141, 0, 1758), (12, 384, 160, 0, 1735), (12, 387, 124, 0, 1739), (14, 335, 5, 0, 712), (14, 492, 8, 0, 702), (14, 495, 15, 0, 915), (14, 498, 18, 0, 924), (14, 505, 9, 0, 708), (14, 633, 7, 0, 698), (14, 637, 17, 0, 716), (14, 640, 25, 0, 731), (14, 1059, 28, 0, 921), (14, 1062, 27, 0, 751), (15, 9, 4, 0, 918), (15, 88, 14, 0, 719), (15, 95, 16, 0, 728), (16, 48, 26, 0, 743), (16, 67, 20, 0, 927), (16, 71, 21, 0, 757), (16, 96, 19, 0, 740), (16, 157, 10, 0, 772), (16, 161, 12, 0, 776), (16, 164, 11, 0, 769), (16, 228, 23, 0, 737), (16, 232, 24, 0, 766), (16, 241, 3, 0, 746), (16, 244, 22, 0, 754), (16, 414, 4, 0, 930)]
def lkI : List (Nat × Nat × Int32 × Nat) := [(11, 89, -1000000001, 380), (11, 94, -1000000003, 381), (11, 144, -1000000002, 471), (11, 183, -1000000011, 523), (11, 281, -1000000005, 496), (11, 411, -1000000014, 1178), (11, 416, -1000000013, 1190), (2, 40, -1000000005, 488), (7, 36, -1000000003, 510), (7, 54, -1000000005, 542), (10, 29, -1000000003, 386), (10, 45, -1000000005, 573), (12, 94, 1000000, 1217), (12, 156, -1000000001, 1415), (12, 157, -1000000003, 1416), (12, 176, -1000000002, 1445), (12, 177, -1000000005, 1458), (12, 188, -1000000011, 1474), (12, 393, -1000000014, 1782), (12, 394, -1000000013, 1787), (17, 76, 56320, 779), (17, 110, 55232, 775), (18, 265, 1431655765, 1141), (18, 266, 858993459, 1142), (18, 267, 252645135, 1143), (16, 227, 65536, 736)]
def lkJ : List (Nat × Nat × Int64 × Nat) := [(19, 314, 6148914691236517205, 1069), (19, 316, 3689348814741910323, 1070), (19, 318, 1085102592571150095, 1071)]
def lkC : List (Nat × Nat × Nat × Nat) := [(11, 9, 10, 103), (11, 16, 7, 135), (11, 25, 0, 165), (11, 31, 5, 167), (11, 38, 9, 194), (11, 45, 1, 218), (11, 55, 3, 250), (11, 62, 4, 260), (11, 68, 6, 262), (11, 75, 8, 304), (11, 120, 2, 411), (10, 15, 2, 109), (13, 7, 11, 95), (13, 10, 12, 1211)]
def lkS : List (Nat × Nat × Nat) := [(1, 21, 0), (1, 43, 2), (1, 49, 3), (1, 51, 4), (1, 108, 1), (12, 328, 5), (12, 334, 6), (12, 336, 7)]
def lkG : List (Nat × Nat × Nat × Nat × Nat) := [(11, 376, 2, 1, 1102), (11, 379, 3, 1, 1104), (14, 38, 0, 0, 706), (14, 1053, 1, 0, 749)]
def lkV : List (Nat × Nat × Nat × Nat) := [(14, 9, 0, 1797), (14, 15, 1, 1796)]
/-- a method: its name, code, locals, answer; places of its words: code, instance or static, selects, initialized; arguments; 0 instance, 1 static, 2 constructor -/
abbrev MD : Type := MethodName × ByteArray × Nat × Option FieldType × (Nat × Nat × Nat × Nat) × Nat × Nat
def mdl_0 : List MD := [(yJ0_charAt_5068e, cJ0_charAt_5068e, 2, (some .char), (914, 912, 913, 85), 1, 0), (yJ0_checkBoundsBeginEnd_23922, cJ0_checkBoundsBeginEnd_23922, 3, none, (748, 747, 0, 85), 3, 1), (yJ0_checkIndex_df160, cJ0_checkIndex_df160, 2, none, (920, 919, 0, 85), 2, 1), (yJ0_coder_7d493, cJ0_coder_7d493, 1, (some .byte), (715, 713, 714, 85), 0, 0), (yJ0_indexOf_0f7a4, cJ0_indexOf_0f7a4, 2, (some .int), (697, 695, 696, 85), 1, 0), (yJ0_indexOf_7cf53, cJ0_indexOf_7cf53, 3, (some .int), (701, 699, 700, 85), 2, 0), (yJ0_isLatin1_aae02, cJ0_isLatin1_aae02, 1, (some .boolean), (705, 703, 704, 85), 0, 0), (yJ0_length_8abf5, cJ0_length_8abf5, 1, (some .int), (711, 709, 710, 85), 0, 0), (yJ11_highSurrogate_5068e, cJ11_highSurrogate_5068e, 1, (some .char), (774, 773, 0, 90), 1, 1), (yJ11_isValidCodePoint_9a6ad, cJ11_isValidCodePoint_9a6ad, 2, (some .boolean), (771, 770, 0, 90), 1, 1), (yJ11_lowSurrogate_5068e, cJ11_lowSurrogate_5068e, 1, (some .char), (778, 777, 0, 90), 1, 1), (yJ13_bitCount_95d88, cJ13_bitCount_95d88, 2, (some .int), (1068, 1067, 0, 92), 1, 1), (yJ1_canEncode_9a6ad, cJ1_canEncode_9a6ad, 1, (some .boolean), (721, 720, 0, 86), 1, 1), (yJ1_charAt_3b067, cJ1_charAt_3b067, 2, (some .char), (917, 916, 0, 86), 2, 1), (yJ1_indexOfChar_4cfef, cJ1_indexOfChar_4cfef, 6, (some .int), (730, 729, 0, 86), 4, 1), (yJ1_indexOf_4cfef, cJ1_indexOf_4cfef, 4, (some .int), (718, 717, 0, 86), 4, 1), (yJ2_charAt_3b067, cJ2_charAt_3b067, 2, (some .char), (926, 925, 0, 88), 2, 1), (yJ2_checkBoundsBeginEnd_d044e, cJ2_checkBoundsBeginEnd_d044e, 3, none, (742, 741, 0, 88), 3, 1), (yJ2_checkIndex_2214a, cJ2_checkIndex_2214a, 2, none, (929, 928, 0, 88), 2, 1), (yJ2_getChar_3b067, cJ2_getChar_3b067, 2, (some .char), (759, 758, 0, 88), 2, 1), (yJ2_indexOfCharUnsafe_4cfef, cJ2_indexOfCharUnsafe_4cfef, 5, (some .int), (756, 755, 0, 88), 4, 1), (yJ2_indexOfChar_4cfef, cJ2_indexOfChar_4cfef, 4, (some .int), (739, 738, 0, 88), 4, 1), (yJ2_indexOfSupplementary_4cfef, cJ2_indexOfSupplementary_4cfef, 7, (some .int), (768, 767, 0, 88), 4, 1), (yJ2_indexOf_4cfef, cJ2_indexOf_4cfef, 4, (some .int), (733, 732, 0, 88), 4, 1), (yJ2_length_9d52b, cJ2_length_9d52b, 1, (some .int), (745, 744, 0, 88), 1, 1), (yJ3_checkFromToIndex_8c36e, cJ3_checkFromToIndex_8c36e, 4, (some .int), (753, 752, 0, 89), 4, 1), (yJ3_checkIndex_8e157, cJ3_checkIndex_8e157, 3, (some .int), (923, 922, 0, 89), 3, 1), (yJ6_bitCount_0f7a4, cJ6_bitCount_0f7a4, 1, (some .int), (1140, 1139, 0, 93), 1, 1), (yJ7_fill_53178, cJ7_fill_53178, 4, none, (545, 544, 0, 83), 2, 1), (yJ7_fill_fb410, cJ7_fill_fb410, 4, none, (1185, 1184, 0, 83), 2, 1), (yX0_entitledOf, cX0_entitledOf, 4, (some .int), (836, 834, 835, 84), 1, 0), (yX0_hasBranch, cX0_hasBranch, 2, (some .boolean), (832, 830, 831, 84), 1, 0), (yX0_hasClosed, cX0_hasClosed, 1, (some .boolean), (643, 641, 642, 84), 0, 0), (yX0_hasHeard, cX0_hasHeard, 2, (some .boolean), (674, 672, 673, 84), 1, 0), (yX0_hasSent, cX0_hasSent, 2, (some .boolean), (647, 645, 646, 84), 1, 0), (yX0_hear, cX0_hear, 3, none, (678, 676, 677, 84), 2, 0), (yX0_heardOf, cX0_heardOf, 5, (some .int), (849, 847, 848, 84), 2, 0), (yX0_init, cX0_init, 3, none, (600, 599, 0, 84), 2, 2), (yX0_post, cX0_post, 2, none, (652, 650, 651, 84), 1, 0), (yX0_postToMissed, cX0_postToMissed, 3, (some .int), (660, 658, 659, 84), 0, 0)]
def mdl_1 : List MD := [(yX0_tellEntitled, cX0_tellEntitled, 4, none, (796, 795, 5, 84), 3, 0), (yX0_tellNames, cX0_tellNames, 4, none, (787, 785, 786, 84), 2, 0), (yX10_addBranch, cX10_addBranch, 2, (some .int), (385, 383, 384, 73), 1, 0), (yX10_addMember, cX10_addMember, 2, (some .int), (454, 452, 453, 73), 1, 0), (yX10_branchOn, cX10_branchOn, 4, (some .int), (571, 569, 570, 73), 2, 0), (yX10_hasBranch, cX10_hasBranch, 2, (some .boolean), (394, 392, 393, 73), 1, 0), (yX10_hasVital, cX10_hasVital, 3, (some .boolean), (805, 803, 804, 73), 1, 0), (yX10_init, cX10_init, 1, none, (107, 106, 0, 73), 0, 2), (yX10_isAmong, cX10_isAmong, 5, (some .boolean), (665, 663, 664, 73), 3, 0), (yX10_isBranchOf, cX10_isBranchOf, 4, (some .boolean), (398, 396, 397, 73), 2, 0), (yX10_isKind, cX10_isKind, 1, (some .boolean), (376, 375, 0, 73), 1, 1), (yX10_memberAt, cX10_memberAt, 2, (some (.object "StrikeBallots$Member")), (462, 460, 461, 73), 1, 0), (yX10_sizeOf, cX10_sizeOf, 4, (some .int), (567, 565, 566, 73), 1, 0), (yX10_stayers, cX10_stayers, 4, (some .int), (1209, 1207, 1208, 73), 0, 0), (yX10_strikePay, cX10_strikePay, 6, (some .int), (1117, 1115, 1116, 73), 2, 0), (yX10_strikesVital, cX10_strikesVital, 3, (some .boolean), (1125, 1123, 1124, 73), 1, 0), (yX10_wrongIn, cX10_wrongIn, 7, (some .int), (1064, 1062, 1063, 73), 2, 0), (yX11_about, cX11_about, 4, (some .int), (820, 818, 819, 72), 2, 0), (yX11_back, cX11_back, 5, (some .int), (670, 668, 669, 72), 3, 0), (yX11_ballotAt, cX11_ballotAt, 2, (some (.object "StrikeBallots$Ballot")), (639, 638, 3, 72), 1, 0), (yX11_branch, cX11_branch, 2, (some .int), (373, 371, 372, 72), 1, 0), (yX11_check, cX11_check, 4, (some .int), (1159, 1157, 1158, 72), 2, 0), (yX11_close, cX11_close, 3, (some .int), (682, 680, 681, 72), 1, 0), (yX11_copy, cX11_copy, 8, (some .int), (1194, 1192, 1193, 72), 5, 0), (yX11_cost, cX11_cost, 3, (some .int), (1151, 1149, 1150, 72), 1, 0), (yX11_count, cX11_count, 2, (some .int), (1205, 1203, 1204, 72), 1, 0), (yX11_cure, cX11_cure, 6, (some .int), (1028, 1026, 1027, 72), 1, 0), (yX11_dayOrNone, cX11_dayOrNone, 1, (some .int), (495, 494, 0, 72), 1, 1), (yX11_days, cX11_days, 2, (some .int), (592, 590, 591, 72), 1, 0), (yX11_docked, cX11_docked, 4, (some .int), (1171, 1169, 1170, 72), 2, 0), (yX11_feed, cX11_feed, 4, (some .int), (862, 860, 861, 72), 3, 0), (yX11_harm, cX11_harm, 4, (some .int), (1087, 1085, 1086, 72), 2, 0), (yX11_holds, cX11_holds, 4, (some .int), (1083, 1081, 1082, 72), 1, 0), (yX11_init, cX11_init, 1, none, (99, 98, 0, 72), 0, 2), (yX11_isHalfList, cX11_isHalfList, 1, (some .boolean), (1036, 1035, 0, 72), 1, 1), (yX11_isKnownDay, cX11_isKnownDay, 3, (some .boolean), (783, 782, 4, 72), 2, 0), (yX11_isLetter, cX11_isLetter, 1, (some .boolean), (689, 688, 0, 72), 1, 1), (yX11_isLiving, cX11_isLiving, 4, (some .boolean), (1024, 1023, 23, 72), 2, 0), (yX11_isMark, cX11_isMark, 1, (some .boolean), (409, 408, 0, 72), 1, 1), (yX11_isOf, cX11_isOf, 3, (some .int), (390, 388, 389, 72), 2, 0)]
def mdl_2 : List MD := [(yX11_isStanding, cX11_isStanding, 3, (some .boolean), (1016, 1015, 22, 72), 2, 0), (yX11_isWithin, cX11_isWithin, 3, (some .boolean), (379, 378, 0, 72), 3, 1), (yX11_joined, cX11_joined, 2, (some .int), (537, 535, 536, 72), 1, 0), (yX11_law, cX11_law, 3, (some .int), (874, 872, 873, 72), 0, 0), (yX11_lawFor, cX11_lawFor, 4, (some .int), (986, 985, 18, 72), 3, 0), (yX11_lay, cX11_lay, 3, (some .int), (1091, 1089, 1090, 72), 1, 0), (yX11_leave, cX11_leave, 3, (some .int), (479, 477, 478, 72), 1, 0), (yX11_line, cX11_line, 3, (some .int), (500, 498, 499, 72), 2, 0), (yX11_lives, cX11_lives, 4, (some .int), (1020, 1018, 1019, 72), 2, 0), (yX11_makePlan, cX11_makePlan, 6, (some .boolean), (1113, 1112, 25, 72), 2, 0), (yX11_mark, cX11_mark, 6, (some .int), (1189, 1187, 1188, 72), 3, 0), (yX11_member, cX11_member, 5, (some .int), (406, 404, 405, 72), 4, 0), (yX11_move, cX11_move, 5, (some .int), (458, 456, 457, 72), 2, 0), (yX11_name, cX11_name, 5, (some .int), (686, 684, 685, 72), 3, 0), (yX11_notice, cX11_notice, 9, (some .int), (1033, 1031, 1032, 72), 4, 0), (yX11_noticeAt, cX11_noticeAt, 2, (some (.object "StrikeBallots$Notice")), (1079, 1078, 24, 72), 1, 0), (yX11_noticed, cX11_noticed, 4, (some .int), (1075, 1073, 1074, 72), 2, 0), (yX11_of, cX11_of, 4, (some .int), (483, 481, 482, 72), 2, 0), (yX11_oneIf, cX11_oneIf, 1, (some .int), (402, 401, 0, 72), 1, 1), (yX11_open, cX11_open, 2, (some .int), (596, 594, 595, 72), 1, 0), (yX11_parcel, cX11_parcel, 5, (some .int), (858, 856, 857, 72), 3, 0), (yX11_parcels, cX11_parcels, 3, (some .int), (824, 822, 823, 72), 1, 0), (yX11_plan, cX11_plan, 3, (some .int), (1109, 1107, 1108, 72), 2, 0), (yX11_planned, cX11_planned, 3, (some .int), (1147, 1145, 1146, 72), 2, 0), (yX11_roll, cX11_roll, 4, (some .int), (514, 512, 513, 72), 2, 0), (yX11_rolls, cX11_rolls, 3, (some .int), (563, 561, 562, 72), 2, 0), (yX11_rule, cX11_rule, 4, (some .int), (1101, 1099, 1100, 72), 2, 0), (yX11_says, cX11_says, 5, (some .int), (982, 980, 981, 72), 3, 0), (yX11_send, cX11_send, 4, (some .int), (635, 633, 634, 72), 2, 0), (yX11_sendAll, cX11_sendAll, 3, (some .int), (656, 654, 655, 72), 1, 0), (yX11_sheet, cX11_sheet, 4, (some .int), (1177, 1175, 1176, 72), 2, 0), (yX11_sheetAt, cX11_sheetAt, 2, (some (.object "StrikeBallots$Sheet")), (518, 517, 0, 72), 1, 0), (yX11_stands, cX11_stands, 4, (some .int), (1012, 1010, 1011, 72), 2, 0), (yX11_tell, cX11_tell, 2, (some .int), (1155, 1153, 1154, 72), 1, 0), (yX11_told, cX11_told, 4, (some .int), (492, 490, 491, 72), 2, 0), (yX11_trim, cX11_trim, 2, (some .int), (870, 868, 869, 72), 1, 0), (yX11_wipe, cX11_wipe, 2, (some .int), (533, 531, 532, 72), 0, 0), (yX12_about, cX12_about, 3, (some .int), (1557, 1555, 1556, 81), 2, 0), (yX12_adds, cX12_adds, 6, none, (1573, 1572, 44, 81), 3, 0), (yX12_and, cX12_and, 3, (some .int), (1629, 1628, 51, 81), 0, 0)]
def mdl_3 : List MD := [(yX12_at, cX12_at, 2, (some .int), (1600, 1599, 46, 81), 1, 0), (yX12_back, cX12_back, 5, (some .int), (1534, 1532, 1533, 81), 3, 0), (yX12_bestDays, cX12_bestDays, 8, (some .int), (1742, 1741, 66, 81), 2, 0), (yX12_branch, cX12_branch, 2, (some .int), (1411, 1409, 1410, 81), 1, 0), (yX12_branchOf, cX12_branchOf, 2, (some .int), (1444, 1443, 32, 81), 1, 0), (yX12_byteOf, cX12_byteOf, 2, (some .int), (1584, 1583, 0, 81), 2, 1), (yX12_canBe, cX12_canBe, 6, (some .boolean), (1757, 1756, 69, 81), 3, 0), (yX12_check, cX12_check, 8, (some .int), (1773, 1771, 1772, 81), 2, 0), (yX12_close, cX12_close, 2, (some .int), (1538, 1536, 1537, 81), 1, 0), (yX12_copy, cX12_copy, 7, (some .int), (1791, 1789, 1790, 81), 5, 0), (yX12_cost, cX12_cost, 2, (some .int), (1722, 1720, 1721, 81), 1, 0), (yX12_costOf, cX12_costOf, 4, (some .int), (1726, 1725, 63, 81), 1, 0), (yX12_count, cX12_count, 4, (some .int), (1795, 1793, 1794, 81), 1, 0), (yX12_cure, cX12_cure, 4, (some .int), (1687, 1685, 1686, 81), 1, 0), (yX12_dayWage, cX12_dayWage, 2, (some .int), (1730, 1729, 64, 81), 1, 0), (yX12_days, cX12_days, 2, (some .int), (1502, 1500, 1501, 81), 1, 0), (yX12_docked, cX12_docked, 4, (some .int), (1777, 1775, 1776, 81), 2, 0), (yX12_feed, cX12_feed, 5, (some .int), (1581, 1579, 1580, 81), 3, 0), (yX12_figuresApart, cX12_figuresApart, 6, (some .int), (1494, 1493, 0, 81), 2, 1), (yX12_fundBehind, cX12_fundBehind, 6, (some .int), (1761, 1760, 70, 81), 3, 0), (yX12_gives, cX12_gives, 2, (some .int), (1667, 1666, 59, 81), 1, 0), (yX12_harm, cX12_harm, 4, (some .int), (1710, 1708, 1709, 81), 2, 0), (yX12_harmOf, cX12_harmOf, 4, (some .int), (1750, 1749, 68, 81), 1, 0), (yX12_hasEntitled, cX12_hasEntitled, 5, (some .boolean), (1569, 1568, 43, 81), 2, 0), (yX12_holds, cX12_holds, 3, (some .int), (1706, 1704, 1705, 81), 1, 0), (yX12_in, cX12_in, 3, (some .boolean), (1414, 1413, 0, 81), 3, 1), (yX12_init, cX12_init, 1, none, (1215, 1214, 0, 81), 0, 2), (yX12_isBallot, cX12_isBallot, 2, (some .boolean), (1514, 1513, 36, 81), 1, 0), (yX12_isBranch, cX12_isBranch, 2, (some .boolean), (1424, 1423, 29, 81), 1, 0), (yX12_isDigit, cX12_isDigit, 1, (some .boolean), (1606, 1605, 0, 81), 1, 1), (yX12_isEntitled, cX12_isEntitled, 3, (some .boolean), (1526, 1525, 38, 81), 2, 0), (yX12_isIn, cX12_isIn, 5, (some .boolean), (1530, 1529, 39, 81), 3, 0), (yX12_isLetter, cX12_isLetter, 1, (some .boolean), (1603, 1602, 0, 81), 1, 1), (yX12_isList, cX12_isList, 5, (some .boolean), (1695, 1694, 62, 81), 2, 0), (yX12_isListed, cX12_isListed, 3, (some .boolean), (1698, 1697, 0, 81), 3, 1), (yX12_isMember, cX12_isMember, 2, (some .boolean), (1440, 1439, 31, 81), 1, 0), (yX12_isOf, cX12_isOf, 3, (some .int), (1420, 1418, 1419, 81), 2, 0), (yX12_isOfKind, cX12_isOfKind, 3, (some .boolean), (1428, 1427, 30, 81), 2, 0), (yX12_isPlan, cX12_isPlan, 3, (some .boolean), (1738, 1737, 65, 81), 2, 0), (yX12_isSheet, cX12_isSheet, 1, (some .boolean), (1473, 1472, 0, 81), 1, 1)]
def mdl_4 : List MD := [(yX12_isSign, cX12_isSign, 2, (some .boolean), (1649, 1648, 56, 81), 1, 0), (yX12_isTime, cX12_isTime, 3, (some .boolean), (1549, 1548, 40, 81), 2, 0), (yX12_isVital, cX12_isVital, 4, (some .boolean), (1746, 1745, 67, 81), 1, 0), (yX12_isWord, cX12_isWord, 4, (some .boolean), (1615, 1614, 48, 81), 1, 0), (yX12_joined, cX12_joined, 2, (some .int), (1483, 1481, 1482, 81), 1, 0), (yX12_joins, cX12_joins, 4, none, (1491, 1490, 35, 81), 1, 0), (yX12_joinsAll, cX12_joinsAll, 2, none, (1487, 1486, 34, 81), 0, 0), (yX12_knows, cX12_knows, 7, none, (1553, 1552, 41, 81), 2, 0), (yX12_law, cX12_law, 3, (some .int), (1592, 1590, 1591, 81), 0, 0), (yX12_lay, cX12_lay, 5, (some .int), (1714, 1712, 1713, 81), 1, 0), (yX12_leave, cX12_leave, 2, (some .int), (1449, 1447, 1448, 81), 1, 0), (yX12_line, cX12_line, 3, (some .int), (1466, 1464, 1465, 81), 2, 0), (yX12_lives, cX12_lives, 3, (some .int), (1679, 1677, 1678, 81), 2, 0), (yX12_livesOn, cX12_livesOn, 3, (some .boolean), (1683, 1682, 61, 81), 2, 0), (yX12_many, cX12_many, 3, (some .int), (1753, 1752, 0, 81), 1, 1), (yX12_mark, cX12_mark, 5, (some .int), (1786, 1784, 1785, 81), 3, 0), (yX12_member, cX12_member, 5, (some .int), (1432, 1430, 1431, 81), 4, 0), (yX12_move, cX12_move, 4, (some .int), (1436, 1434, 1435, 81), 2, 0), (yX12_name, cX12_name, 4, (some .int), (1542, 1540, 1541, 81), 3, 0), (yX12_nameOf, cX12_nameOf, 1, (some .int), (1545, 1544, 0, 81), 1, 1), (yX12_next, cX12_next, 5, none, (1596, 1595, 45, 81), 0, 0), (yX12_notice, cX12_notice, 9, (some .int), (1691, 1689, 1690, 81), 4, 0), (yX12_noticed, cX12_noticed, 3, (some .int), (1702, 1700, 1701, 81), 2, 0), (yX12_number, cX12_number, 3, (some .int), (1653, 1652, 57, 81), 0, 0), (yX12_of, cX12_of, 3, (some .int), (1453, 1451, 1452, 81), 2, 0), (yX12_ofOn, cX12_ofOn, 5, (some .int), (1457, 1456, 33, 81), 2, 0), (yX12_one, cX12_one, 3, (some .int), (1645, 1644, 55, 81), 0, 0), (yX12_open, cX12_open, 3, (some .int), (1506, 1504, 1505, 81), 1, 0), (yX12_or, cX12_or, 3, (some .int), (1625, 1624, 50, 81), 0, 0), (yX12_papers, cX12_papers, 4, (some .int), (1518, 1517, 37, 81), 1, 0), (yX12_parcel, cX12_parcel, 4, (some .int), (1577, 1575, 1576, 81), 3, 0), (yX12_parcels, cX12_parcels, 2, (some .int), (1561, 1559, 1560, 81), 1, 0), (yX12_parts, cX12_parts, 4, none, (1565, 1564, 42, 81), 1, 0), (yX12_plan, cX12_plan, 3, (some .int), (1734, 1732, 1733, 81), 2, 0), (yX12_planned, cX12_planned, 3, (some .int), (1765, 1763, 1764, 81), 2, 0), (yX12_reads, cX12_reads, 4, none, (1611, 1610, 47, 81), 2, 0), (yX12_roll, cX12_roll, 6, (some .int), (1470, 1468, 1469, 81), 2, 0), (yX12_rolls, cX12_rolls, 6, (some .int), (1498, 1496, 1497, 81), 2, 0), (yX12_rule, cX12_rule, 4, (some .int), (1718, 1716, 1717, 81), 2, 0), (yX12_says, cX12_says, 4, (some .int), (1659, 1657, 1658, 81), 3, 0)]
def mdl_5 : List MD := [(yX12_saysOn, cX12_saysOn, 4, (some .int), (1663, 1662, 58, 81), 3, 0), (yX12_send, cX12_send, 3, (some .int), (1510, 1508, 1509, 81), 2, 0), (yX12_sendAll, cX12_sendAll, 4, (some .int), (1522, 1520, 1521, 81), 1, 0), (yX12_sheet, cX12_sheet, 4, (some .int), (1781, 1779, 1780, 81), 2, 0), (yX12_stands, cX12_stands, 3, (some .int), (1671, 1669, 1670, 81), 2, 0), (yX12_standsOn, cX12_standsOn, 3, (some .boolean), (1675, 1674, 60, 81), 2, 0), (yX12_sum, cX12_sum, 4, (some .int), (1637, 1636, 53, 81), 0, 0), (yX12_takes, cX12_takes, 2, none, (1621, 1620, 49, 81), 1, 0), (yX12_tell, cX12_tell, 2, (some .int), (1769, 1767, 1768, 81), 1, 0), (yX12_term, cX12_term, 4, (some .int), (1641, 1640, 54, 81), 0, 0), (yX12_test, cX12_test, 5, (some .int), (1633, 1632, 52, 81), 0, 0), (yX12_told, cX12_told, 3, (some .int), (1462, 1460, 1461, 81), 2, 0), (yX12_trim, cX12_trim, 2, (some .int), (1588, 1586, 1587, 81), 1, 0), (yX12_wipe, cX12_wipe, 2, (some .int), (1479, 1477, 1478, 81), 0, 0), (yX1_apply, cX1_apply, 3, (some .int), (1008, 1007, 0, 77), 3, 1), (yX1_init, cX1_init, 1, none, (222, 221, 0, 77), 0, 2), (yX1_isBallotName, cX1_isBallotName, 1, (some .boolean), (692, 691, 0, 77), 1, 1), (yX1_isNameHere, cX1_isNameHere, 2, (some .boolean), (959, 958, 16, 77), 1, 0), (yX1_levelOf, cX1_levelOf, 1, (some .int), (972, 971, 0, 77), 1, 1), (yX1_pop, cX1_pop, 1, (some .int), (1004, 1003, 21, 77), 0, 0), (yX1_push, cX1_push, 2, none, (1000, 999, 20, 77), 1, 0), (yX1_readFrom, cX1_readFrom, 2, (some .boolean), (878, 876, 877, 77), 1, 0), (yX1_readLevel, cX1_readLevel, 8, (some .boolean), (935, 934, 12, 77), 3, 0), (yX1_readPart, cX1_readPart, 7, (some .boolean), (939, 938, 13, 77), 2, 0), (yX1_readSection, cX1_readSection, 4, (some .boolean), (905, 904, 11, 77), 2, 0), (yX1_takeClosing, cX1_takeClosing, 2, (some .boolean), (969, 968, 17, 77), 0, 0), (yX1_takeOperand, cX1_takeOperand, 2, (some .boolean), (947, 946, 14, 77), 1, 0), (yX1_valueOf, cX1_valueOf, 5, (some .int), (990, 988, 989, 77), 2, 0), (yX1_work, cX1_work, 5, none, (995, 994, 19, 77), 2, 0), (yX1_write, cX1_write, 2, none, (951, 950, 15, 77), 1, 0), (yX2_branchOn, cX2_branchOn, 4, (some .int), (487, 485, 486, 82), 1, 0), (yX2_dayWage, cX2_dayWage, 1, (some .int), (1121, 1119, 1120, 82), 0, 0), (yX2_goTo, cX2_goTo, 3, (some .boolean), (475, 473, 474, 82), 2, 0), (yX2_hasLeft, cX2_hasLeft, 1, (some .boolean), (470, 468, 469, 82), 0, 0), (yX2_init, cX2_init, 6, none, (415, 414, 0, 82), 5, 2), (yX2_lastBranch, cX2_lastBranch, 1, (some .int), (466, 464, 465, 82), 0, 0), (yX3_addOne, cX3_addOne, 2, none, (800, 798, 799, 78), 1, 0), (yX3_clear, cX3_clear, 1, none, (791, 789, 790, 78), 0, 0), (yX3_init, cX3_init, 1, none, (254, 253, 0, 78), 0, 2), (yX3_put, cX3_put, 3, none, (811, 809, 810, 78), 2, 0)]
def mdl_6 : List MD := [(yX3_valueOf, cX3_valueOf, 2, (some .int), (815, 813, 814, 78), 1, 0), (yX4_init, cX4_init, 4, none, (1040, 1039, 0, 91), 3, 2), (yX5_addBranch, cX5_addBranch, 6, none, (845, 844, 7, 75), 2, 0), (yX5_begin, cX5_begin, 1, none, (841, 840, 6, 75), 0, 0), (yX5_gather, cX5_gather, 4, none, (828, 826, 827, 75), 2, 0), (yX5_init, cX5_init, 1, none, (171, 170, 0, 75), 0, 2), (yX5_joinLastTwo, cX5_joinLastTwo, 2, none, (854, 853, 8, 75), 0, 0), (yX6_choose, cX6_choose, 7, none, (1133, 1132, 26, 79), 5, 0), (yX6_compareRows, cX6_compareRows, 5, (some .int), (1163, 1161, 1162, 79), 1, 0), (yX6_init, cX6_init, 1, none, (266, 265, 0, 79), 0, 2), (yX6_isTold, cX6_isTold, 4, (some .boolean), (1167, 1166, 28, 79), 3, 0), (yX6_keepBetter, cX6_keepBetter, 5, none, (1137, 1136, 27, 79), 2, 0), (yX6_make, cX6_make, 5, none, (1129, 1127, 1128, 79), 3, 0), (yX6_takeHarms, cX6_takeHarms, 5, (some .int), (1095, 1093, 1094, 79), 1, 0), (yX7_addLine, cX7_addLine, 3, (some .int), (508, 506, 507, 74), 2, 0), (yX7_addLines, cX7_addLines, 5, (some .int), (527, 525, 526, 74), 2, 0), (yX7_differingFigures, cX7_differingFigures, 4, (some .int), (558, 557, 0, 74), 2, 1), (yX7_init, cX7_init, 2, none, (139, 138, 0, 74), 1, 2), (yX7_isFull, cX7_isFull, 1, (some .boolean), (504, 502, 503, 74), 0, 0), (yX7_join, cX7_join, 1, none, (541, 539, 540, 74), 0, 0), (yX7_joinThoseWith, cX7_joinThoseWith, 4, none, (549, 548, 1, 74), 1, 0), (yX7_joinedLinesOf, cX7_joinedLinesOf, 6, (some .int), (583, 581, 582, 74), 2, 0), (yX7_linesOf, cX7_linesOf, 4, (some .int), (579, 577, 578, 74), 1, 0), (yX7_membersWithout, cX7_membersWithout, 5, (some .int), (587, 585, 586, 74), 1, 0), (yX7_partnerFor, cX7_partnerFor, 5, (some .int), (553, 552, 2, 74), 2, 0), (yX8_clearTo, cX8_clearTo, 2, none, (1182, 1180, 1181, 80), 1, 0), (yX8_hasPlaces, cX8_hasPlaces, 3, (some .boolean), (1198, 1196, 1197, 80), 2, 0), (yX8_init, cX8_init, 1, none, (308, 307, 0, 80), 0, 2), (yX8_isMissing, cX8_isMissing, 1, (some .boolean), (522, 520, 521, 80), 0, 0), (yX9_addFour, cX9_addFour, 3, none, (866, 864, 865, 76), 1, 0), (yX9_byteAt, cX9_byteAt, 2, (some .int), (890, 889, 9, 76), 1, 0), (yX9_goOn, cX9_goOn, 2, none, (886, 884, 885, 76), 0, 0), (yX9_init, cX9_init, 1, none, (198, 197, 0, 76), 0, 2), (yX9_isAtEnd, cX9_isAtEnd, 1, (some .boolean), (978, 976, 977, 76), 0, 0), (yX9_isAtWord, cX9_isAtWord, 3, (some .boolean), (909, 907, 908, 76), 1, 0), (yX9_isRow, cX9_isRow, 1, (some .boolean), (900, 899, 0, 76), 1, 1), (yX9_letterAtHand, cX9_letterAtHand, 1, (some .char), (955, 953, 954, 76), 0, 0), (yX9_numberAtHand, cX9_numberAtHand, 3, (some .int), (943, 941, 942, 76), 0, 0), (yX9_rewind, cX9_rewind, 1, none, (882, 880, 881, 76), 0, 0), (yX9_signAtHand, cX9_signAtHand, 1, (some .char), (965, 963, 964, 76), 0, 0)]
def mdl_7 : List MD := [(yX9_sortAt, cX9_sortAt, 3, (some .int), (894, 893, 10, 76), 1, 0)]
def mdl : List MD := mdl_0 ++ (mdl_1 ++ (mdl_2 ++ (mdl_3 ++ (mdl_4 ++ (mdl_5 ++ (mdl_6 ++ (mdl_7)))))))
def md0 : MD := (⟨"", "", ""⟩, ⟨#[]⟩, 0, none, (0, 0, 0, 0), 0, 0)
/-- method number j, from 2 on -/
def md (j : Nat) : MD := mdl.getD (j - 2) md0
def wAt (i : Nat) (w : Cond) : Bool := decide (lw_tbl[i]? = some w)
def gAt (i : Nat) (w : Cond) : Bool := wAt i w && goodWord w
def nAt (i : Nat) (w : Cond) : Bool := wAt i w && isNst w
theorem gAt_mem {i : Nat} {w : Cond} (h : gAt i w = true) : w ∈ tw := by
  simp only [gAt, wAt, Bool.and_eq_true, decide_eq_true_eq] at h
  exact List.mem_filter.mpr ⟨List.mem_of_getElem? h.1, h.2⟩
theorem nAt_mem {i : Nat} {w : Cond} (h : nAt i w = true) : w ∈ nst := by
  simp only [nAt, wAt, Bool.and_eq_true, decide_eq_true_eq] at h
  exact List.mem_filter.mpr ⟨List.mem_of_getElem? h.1, h.2⟩
def cK (k : Nat) : vw_C := vwCl.getD k (RX0, TX0, 0)
def ckF (q : Nat × Nat × Nat × Nat × Nat × Nat) : Bool := match q with
  | (o, i, k, j, n, z) => decide (k < 13) && decide (j < (cK k).2.2) && (bif Nat.beq n 0 then gAt z (.fieldLink (cnm o) i ((cK k).2.1 j).1 ((cK k).2.1 j).2.1 ((cK k).2.1 j).2.2.1) else nAt z (.fieldLinkNest (cnm o) i ((cK k).2.1 j).1 ((cK k).2.1 j).2.1 ((cK k).2.1 j).2.2.1 "StrikeBallots"))
theorem lkF_ok : lkF.all ckF = true := by decide +kernel
def ckM (q : Nat × Nat × Nat × Nat × Nat) : Bool := match q with
  | (o, i, j, n, z) => bif Nat.beq n 0 then gAt z (.methodLink (cnm o) i (md j).1) else nAt z (.methodLinkNest (cnm o) i (md j).1 "StrikeBallots")
theorem lkM_ok : lkM.all ckM = true := by decide +kernel
def ckI (q : Nat × Nat × Int32 × Nat) : Bool := match q with
  | (o, i, v, z) => gAt z (.constant (cnm o) i v)
theorem lkI_ok : lkI.all ckI = true := by decide +kernel
def ckJ (q : Nat × Nat × Int64 × Nat) : Bool := match q with
  | (o, i, v, z) => gAt z (.constantLong (cnm o) i v)
theorem lkJ_ok : lkJ.all ckJ = true := by decide +kernel
def ckC (q : Nat × Nat × Nat × Nat) : Bool := match q with
  | (o, i, k, z) => decide (k < 13) && gAt z (.classLink (cnm o) i (cK k).1)
theorem lkC_ok : lkC.all ckC = true := by decide +kernel
def gsn (k : Nat) : String × String × String := match k with
  | 0 => ("java/lang/String", "COMPACT_STRINGS", "Z")
  | 1 => ("jdk/internal/util/Preconditions", "SIOOBE_FORMATTER", "Ljava/util/function/BiFunction;")
  | 2 => ("StrikeBallots$Plan", "LOWEST", "[I")
  | _ => ("StrikeBallots$Plan", "HIGHEST", "[I")
def ckG (q : Nat × Nat × Nat × Nat × Nat) : Bool := match q with
  | (o, i, k, n, z) => bif Nat.beq n 0 then gAt z (.fieldLink (cnm o) i (gsn k).1 (gsn k).2.1 (gsn k).2.2) else nAt z (.fieldLinkNest (cnm o) i (gsn k).1 (gsn k).2.1 (gsn k).2.2 "StrikeBallots")
theorem lkG_ok : lkG.all ckG = true := by decide +kernel
def ckV (q : Nat × Nat × Nat × Nat) : Bool := match q with
  | (o, i, k, z) => gAt z (.fieldLink (cnm o) i "java/lang/String" (bif Nat.beq k 0 then "value" else "coder") (bif Nat.beq k 0 then "[B" else "B"))
theorem lkV_ok : lkV.all ckV = true := by decide +kernel
def ckD (q : MD) : Bool := match q with
  | (y, cc, n, r, (z0, z1, z2, z3), na, k) => gAt z3 (.initialized y.cls) && plainName y.cls && decide (y.cls ≠ "java/lang/invoke/MethodHandle" ∧ y.cls ≠ "java/lang/invoke/VarHandle" ∧ (parseMethodDescriptor y.desc).map (fun d => d.parameters.length) = some na) && decide (n ≤ 9) && (bif Nat.beq k 1 then gAt z1 (.static y) else gAt z1 (.instanceMethod y)) && (bif Nat.beq k 0 then gAt z2 (.selects y.cls y y) else true) && (bif Nat.beq k 2 then decide (y.name = "<init>" ∧ r = none) else true)

theorem tin_1 {w : Cond} (h : w ∈ tables_1_1) (hg : goodWord w = true) : w ∈ tw := List.mem_filter.mpr ⟨List.mem_append_right _ (show w ∈ tables_1 from List.mem_append_left _ h), hg⟩
theorem tin_2 {w : Cond} (h : w ∈ tables_1_2) (hg : goodWord w = true) : w ∈ tw := List.mem_filter.mpr ⟨List.mem_append_right _ (show w ∈ tables_1 from List.mem_append_right _ (List.mem_append_left _ h)), hg⟩
theorem tin_3 {w : Cond} (h : w ∈ tables_1_3) (hg : goodWord w = true) : w ∈ tw := List.mem_filter.mpr ⟨List.mem_append_right _ (show w ∈ tables_1 from List.mem_append_right _ (List.mem_append_right _ (List.mem_append_left _ h))), hg⟩
theorem tin_4 {w : Cond} (h : w ∈ tables_1_4) (hg : goodWord w = true) : w ∈ tw := List.mem_filter.mpr ⟨List.mem_append_right _ (show w ∈ tables_1 from List.mem_append_right _ (List.mem_append_right _ (List.mem_append_right _ (List.mem_append_left _ h)))), hg⟩
theorem tin_5 {w : Cond} (h : w ∈ tables_1_5) (hg : goodWord w = true) : w ∈ tw := List.mem_filter.mpr ⟨List.mem_append_right _ (show w ∈ tables_1 from List.mem_append_right _ (List.mem_append_right _ (List.mem_append_right _ (List.mem_append_right _ (List.mem_append_left _ h))))), hg⟩
theorem tin_6 {w : Cond} (h : w ∈ tables_1_6) (hg : goodWord w = true) : w ∈ tw := List.mem_filter.mpr ⟨List.mem_append_right _ (show w ∈ tables_1 from List.mem_append_right _ (List.mem_append_right _ (List.mem_append_right _ (List.mem_append_right _ (List.mem_append_right _ (List.mem_append_left _ h)))))), hg⟩
theorem tin_7 {w : Cond} (h : w ∈ tables_1_7) (hg : goodWord w = true) : w ∈ tw := List.mem_filter.mpr ⟨List.mem_append_right _ (show w ∈ tables_1 from List.mem_append_right _ (List.mem_append_right _ (List.mem_append_right _ (List.mem_append_right _ (List.mem_append_right _ (List.mem_append_right _ (List.mem_append_left _ h))))))), hg⟩
theorem tin_8 {w : Cond} (h : w ∈ tables_1_8) (hg : goodWord w = true) : w ∈ tw := List.mem_filter.mpr ⟨List.mem_append_right _ (show w ∈ tables_1 from List.mem_append_right _ (List.mem_append_right _ (List.mem_append_right _ (List.mem_append_right _ (List.mem_append_right _ (List.mem_append_right _ (List.mem_append_right _ (h)))))))), hg⟩
section
set_option maxRecDepth 20000 in
theorem cw_J0_charAt_5068e : Cond.code yJ0_charAt_5068e cJ0_charAt_5068e 2 (some .char) ∈ tw := tin_4 (List.mem_of_getElem? (i := 123) rfl) rfl
set_option maxRecDepth 20000 in
theorem cw_J0_checkBoundsBeginEnd_23922 : Cond.code yJ0_checkBoundsBeginEnd_23922 cJ0_checkBoundsBeginEnd_23922 3 none ∈ tw := tin_3 (List.mem_of_getElem? (i := 197) rfl) rfl
set_option maxRecDepth 20000 in
theorem cw_J0_checkIndex_df160 : Cond.code yJ0_checkIndex_df160 cJ0_checkIndex_df160 2 none ∈ tw := tin_4 (List.mem_of_getElem? (i := 129) rfl) rfl
set_option maxRecDepth 20000 in
theorem cw_J0_coder_7d493 : Cond.code yJ0_coder_7d493 cJ0_coder_7d493 1 (some .byte) ∈ tw := tin_3 (List.mem_of_getElem? (i := 164) rfl) rfl
set_option maxRecDepth 20000 in
theorem cw_J0_indexOf_0f7a4 : Cond.code yJ0_indexOf_0f7a4 cJ0_indexOf_0f7a4 2 (some .int) ∈ tw := tin_3 (List.mem_of_getElem? (i := 146) rfl) rfl
set_option maxRecDepth 20000 in
theorem cw_J0_indexOf_7cf53 : Cond.code yJ0_indexOf_7cf53 cJ0_indexOf_7cf53 3 (some .int) ∈ tw := tin_3 (List.mem_of_getElem? (i := 150) rfl) rfl
set_option maxRecDepth 20000 in
theorem cw_J0_isLatin1_aae02 : Cond.code yJ0_isLatin1_aae02 cJ0_isLatin1_aae02 1 (some .boolean) ∈ tw := tin_3 (List.mem_of_getElem? (i := 154) rfl) rfl
set_option maxRecDepth 20000 in
theorem cw_J0_length_8abf5 : Cond.code yJ0_length_8abf5 cJ0_length_8abf5 1 (some .int) ∈ tw := tin_3 (List.mem_of_getElem? (i := 160) rfl) rfl
set_option maxRecDepth 20000 in
theorem cw_J11_highSurrogate_5068e : Cond.code yJ11_highSurrogate_5068e cJ11_highSurrogate_5068e 1 (some .char) ∈ tw := tin_3 (List.mem_of_getElem? (i := 223) rfl) rfl
set_option maxRecDepth 20000 in
theorem cw_J11_isValidCodePoint_9a6ad : Cond.code yJ11_isValidCodePoint_9a6ad cJ11_isValidCodePoint_9a6ad 2 (some .boolean) ∈ tw := tin_3 (List.mem_of_getElem? (i := 220) rfl) rfl
set_option maxRecDepth 20000 in
theorem cw_J11_lowSurrogate_5068e : Cond.code yJ11_lowSurrogate_5068e cJ11_lowSurrogate_5068e 1 (some .char) ∈ tw := tin_3 (List.mem_of_getElem? (i := 227) rfl) rfl
set_option maxRecDepth 20000 in
theorem cw_J13_bitCount_95d88 : Cond.code yJ13_bitCount_95d88 cJ13_bitCount_95d88 2 (some .int) ∈ tw := tin_5 (List.mem_of_getElem? (i := 37) rfl) rfl
set_option maxRecDepth 20000 in
theorem cw_J1_canEncode_9a6ad : Cond.code yJ1_canEncode_9a6ad cJ1_canEncode_9a6ad 1 (some .boolean) ∈ tw := tin_3 (List.mem_of_getElem? (i := 170) rfl) rfl
set_option maxRecDepth 20000 in
theorem cw_J1_charAt_3b067 : Cond.code yJ1_charAt_3b067 cJ1_charAt_3b067 2 (some .char) ∈ tw := tin_4 (List.mem_of_getElem? (i := 126) rfl) rfl
set_option maxRecDepth 20000 in
theorem cw_J1_indexOfChar_4cfef : Cond.code yJ1_indexOfChar_4cfef cJ1_indexOfChar_4cfef 6 (some .int) ∈ tw := tin_3 (List.mem_of_getElem? (i := 179) rfl) rfl
set_option maxRecDepth 20000 in
theorem cw_J1_indexOf_4cfef : Cond.code yJ1_indexOf_4cfef cJ1_indexOf_4cfef 4 (some .int) ∈ tw := tin_3 (List.mem_of_getElem? (i := 167) rfl) rfl
set_option maxRecDepth 20000 in
theorem cw_J2_charAt_3b067 : Cond.code yJ2_charAt_3b067 cJ2_charAt_3b067 2 (some .char) ∈ tw := tin_4 (List.mem_of_getElem? (i := 135) rfl) rfl
set_option maxRecDepth 20000 in
theorem cw_J2_checkBoundsBeginEnd_d044e : Cond.code yJ2_checkBoundsBeginEnd_d044e cJ2_checkBoundsBeginEnd_d044e 3 none ∈ tw := tin_3 (List.mem_of_getElem? (i := 191) rfl) rfl
set_option maxRecDepth 20000 in
theorem cw_J2_checkIndex_2214a : Cond.code yJ2_checkIndex_2214a cJ2_checkIndex_2214a 2 none ∈ tw := tin_4 (List.mem_of_getElem? (i := 138) rfl) rfl
set_option maxRecDepth 20000 in
theorem cw_J2_getChar_3b067 : Cond.code yJ2_getChar_3b067 cJ2_getChar_3b067 2 (some .char) ∈ tw := tin_3 (List.mem_of_getElem? (i := 208) rfl) rfl
set_option maxRecDepth 20000 in
theorem cw_J2_indexOfCharUnsafe_4cfef : Cond.code yJ2_indexOfCharUnsafe_4cfef cJ2_indexOfCharUnsafe_4cfef 5 (some .int) ∈ tw := tin_3 (List.mem_of_getElem? (i := 205) rfl) rfl
set_option maxRecDepth 20000 in
theorem cw_J2_indexOfChar_4cfef : Cond.code yJ2_indexOfChar_4cfef cJ2_indexOfChar_4cfef 4 (some .int) ∈ tw := tin_3 (List.mem_of_getElem? (i := 188) rfl) rfl
set_option maxRecDepth 20000 in
theorem cw_J2_indexOfSupplementary_4cfef : Cond.code yJ2_indexOfSupplementary_4cfef cJ2_indexOfSupplementary_4cfef 7 (some .int) ∈ tw := tin_3 (List.mem_of_getElem? (i := 217) rfl) rfl
set_option maxRecDepth 20000 in
theorem cw_J2_indexOf_4cfef : Cond.code yJ2_indexOf_4cfef cJ2_indexOf_4cfef 4 (some .int) ∈ tw := tin_3 (List.mem_of_getElem? (i := 182) rfl) rfl
set_option maxRecDepth 20000 in
theorem cw_J2_length_9d52b : Cond.code yJ2_length_9d52b cJ2_length_9d52b 1 (some .int) ∈ tw := tin_3 (List.mem_of_getElem? (i := 194) rfl) rfl
set_option maxRecDepth 20000 in
theorem cw_J3_checkFromToIndex_8c36e : Cond.code yJ3_checkFromToIndex_8c36e cJ3_checkFromToIndex_8c36e 4 (some .int) ∈ tw := tin_3 (List.mem_of_getElem? (i := 202) rfl) rfl
set_option maxRecDepth 20000 in
theorem cw_J3_checkIndex_8e157 : Cond.code yJ3_checkIndex_8e157 cJ3_checkIndex_8e157 3 (some .int) ∈ tw := tin_4 (List.mem_of_getElem? (i := 132) rfl) rfl
set_option maxRecDepth 20000 in
theorem cw_J6_bitCount_0f7a4 : Cond.code yJ6_bitCount_0f7a4 cJ6_bitCount_0f7a4 1 (some .int) ∈ tw := tin_5 (List.mem_of_getElem? (i := 109) rfl) rfl
set_option maxRecDepth 20000 in
theorem cw_J7_fill_53178 : Cond.code yJ7_fill_53178 cJ7_fill_53178 4 none ∈ tw := tin_2 (List.mem_of_getElem? (i := 234) rfl) rfl
set_option maxRecDepth 20000 in
theorem cw_J7_fill_fb410 : Cond.code yJ7_fill_fb410 cJ7_fill_fb410 4 none ∈ tw := tin_5 (List.mem_of_getElem? (i := 154) rfl) rfl
set_option maxRecDepth 20000 in
theorem cw_X0_entitledOf : Cond.code yX0_entitledOf cX0_entitledOf 4 (some .int) ∈ tw := tin_4 (List.mem_of_getElem? (i := 45) rfl) rfl
set_option maxRecDepth 20000 in
theorem cw_X0_hasBranch : Cond.code yX0_hasBranch cX0_hasBranch 2 (some .boolean) ∈ tw := tin_4 (List.mem_of_getElem? (i := 41) rfl) rfl
set_option maxRecDepth 20000 in
theorem cw_X0_hasClosed : Cond.code yX0_hasClosed cX0_hasClosed 1 (some .boolean) ∈ tw := tin_3 (List.mem_of_getElem? (i := 92) rfl) rfl
set_option maxRecDepth 20000 in
theorem cw_X0_hasHeard : Cond.code yX0_hasHeard cX0_hasHeard 2 (some .boolean) ∈ tw := tin_3 (List.mem_of_getElem? (i := 123) rfl) rfl
set_option maxRecDepth 20000 in
theorem cw_X0_hasSent : Cond.code yX0_hasSent cX0_hasSent 2 (some .boolean) ∈ tw := tin_3 (List.mem_of_getElem? (i := 96) rfl) rfl
set_option maxRecDepth 20000 in
theorem cw_X0_hear : Cond.code yX0_hear cX0_hear 3 none ∈ tw := tin_3 (List.mem_of_getElem? (i := 127) rfl) rfl
set_option maxRecDepth 20000 in
theorem cw_X0_heardOf : Cond.code yX0_heardOf cX0_heardOf 5 (some .int) ∈ tw := tin_4 (List.mem_of_getElem? (i := 58) rfl) rfl
set_option maxRecDepth 20000 in
theorem cw_X0_init : Cond.code yX0_init cX0_init 3 none ∈ tw := tin_3 (List.mem_of_getElem? (i := 49) rfl) rfl
set_option maxRecDepth 20000 in
theorem cw_X0_post : Cond.code yX0_post cX0_post 2 none ∈ tw := tin_3 (List.mem_of_getElem? (i := 101) rfl) rfl
set_option maxRecDepth 20000 in
theorem cw_X0_postToMissed : Cond.code yX0_postToMissed cX0_postToMissed 3 (some .int) ∈ tw := tin_3 (List.mem_of_getElem? (i := 109) rfl) rfl
set_option maxRecDepth 20000 in
theorem cw_X0_tellEntitled : Cond.code yX0_tellEntitled cX0_tellEntitled 4 none ∈ tw := tin_4 (List.mem_of_getElem? (i := 5) rfl) rfl
set_option maxRecDepth 20000 in
theorem cw_X0_tellNames : Cond.code yX0_tellNames cX0_tellNames 4 none ∈ tw := tin_3 (List.mem_of_getElem? (i := 236) rfl) rfl
set_option maxRecDepth 20000 in
theorem cw_X10_addBranch : Cond.code yX10_addBranch cX10_addBranch 2 (some .int) ∈ tw := tin_2 (List.mem_of_getElem? (i := 74) rfl) rfl
set_option maxRecDepth 20000 in
theorem cw_X10_addMember : Cond.code yX10_addMember cX10_addMember 2 (some .int) ∈ tw := tin_2 (List.mem_of_getElem? (i := 143) rfl) rfl
set_option maxRecDepth 20000 in
theorem cw_X10_branchOn : Cond.code yX10_branchOn cX10_branchOn 4 (some .int) ∈ tw := tin_3 (List.mem_of_getElem? (i := 20) rfl) rfl
set_option maxRecDepth 20000 in
theorem cw_X10_hasBranch : Cond.code yX10_hasBranch cX10_hasBranch 2 (some .boolean) ∈ tw := tin_2 (List.mem_of_getElem? (i := 83) rfl) rfl
set_option maxRecDepth 20000 in
theorem cw_X10_hasVital : Cond.code yX10_hasVital cX10_hasVital 3 (some .boolean) ∈ tw := tin_4 (List.mem_of_getElem? (i := 14) rfl) rfl
set_option maxRecDepth 20000 in
theorem cw_X10_init : Cond.code yX10_init cX10_init 1 none ∈ tw := tin_1 (List.mem_of_getElem? (i := 36) rfl) rfl
set_option maxRecDepth 20000 in
theorem cw_X10_isAmong : Cond.code yX10_isAmong cX10_isAmong 5 (some .boolean) ∈ tw := tin_3 (List.mem_of_getElem? (i := 114) rfl) rfl
set_option maxRecDepth 20000 in
theorem cw_X10_isBranchOf : Cond.code yX10_isBranchOf cX10_isBranchOf 4 (some .boolean) ∈ tw := tin_2 (List.mem_of_getElem? (i := 87) rfl) rfl
set_option maxRecDepth 20000 in
theorem cw_X10_isKind : Cond.code yX10_isKind cX10_isKind 1 (some .boolean) ∈ tw := tin_2 (List.mem_of_getElem? (i := 65) rfl) rfl
set_option maxRecDepth 20000 in
theorem cw_X10_memberAt : Cond.code yX10_memberAt cX10_memberAt 2 (some (.object "StrikeBallots$Member")) ∈ tw := tin_2 (List.mem_of_getElem? (i := 151) rfl) rfl
set_option maxRecDepth 20000 in
theorem cw_X10_sizeOf : Cond.code yX10_sizeOf cX10_sizeOf 4 (some .int) ∈ tw := tin_3 (List.mem_of_getElem? (i := 16) rfl) rfl
set_option maxRecDepth 20000 in
theorem cw_X10_stayers : Cond.code yX10_stayers cX10_stayers 4 (some .int) ∈ tw := tin_5 (List.mem_of_getElem? (i := 178) rfl) rfl
set_option maxRecDepth 20000 in
theorem cw_X10_strikePay : Cond.code yX10_strikePay cX10_strikePay 6 (some .int) ∈ tw := tin_5 (List.mem_of_getElem? (i := 86) rfl) rfl
set_option maxRecDepth 20000 in
theorem cw_X10_strikesVital : Cond.code yX10_strikesVital cX10_strikesVital 3 (some .boolean) ∈ tw := tin_5 (List.mem_of_getElem? (i := 94) rfl) rfl
set_option maxRecDepth 20000 in
theorem cw_X10_wrongIn : Cond.code yX10_wrongIn cX10_wrongIn 7 (some .int) ∈ tw := tin_5 (List.mem_of_getElem? (i := 33) rfl) rfl
set_option maxRecDepth 20000 in
theorem cw_X11_about : Cond.code yX11_about cX11_about 4 (some .int) ∈ tw := tin_4 (List.mem_of_getElem? (i := 29) rfl) rfl
set_option maxRecDepth 20000 in
theorem cw_X11_back : Cond.code yX11_back cX11_back 5 (some .int) ∈ tw := tin_3 (List.mem_of_getElem? (i := 119) rfl) rfl
set_option maxRecDepth 20000 in
theorem cw_X11_ballotAt : Cond.code yX11_ballotAt cX11_ballotAt 2 (some (.object "StrikeBallots$Ballot")) ∈ tw := tin_3 (List.mem_of_getElem? (i := 88) rfl) rfl
set_option maxRecDepth 20000 in
theorem cw_X11_branch : Cond.code yX11_branch cX11_branch 2 (some .int) ∈ tw := tin_2 (List.mem_of_getElem? (i := 62) rfl) rfl
set_option maxRecDepth 20000 in
theorem cw_X11_check : Cond.code yX11_check cX11_check 4 (some .int) ∈ tw := tin_5 (List.mem_of_getElem? (i := 128) rfl) rfl
set_option maxRecDepth 20000 in
theorem cw_X11_close : Cond.code yX11_close cX11_close 3 (some .int) ∈ tw := tin_3 (List.mem_of_getElem? (i := 131) rfl) rfl
set_option maxRecDepth 20000 in
theorem cw_X11_copy : Cond.code yX11_copy cX11_copy 8 (some .int) ∈ tw := tin_5 (List.mem_of_getElem? (i := 163) rfl) rfl
set_option maxRecDepth 20000 in
theorem cw_X11_cost : Cond.code yX11_cost cX11_cost 3 (some .int) ∈ tw := tin_5 (List.mem_of_getElem? (i := 120) rfl) rfl
set_option maxRecDepth 20000 in
theorem cw_X11_count : Cond.code yX11_count cX11_count 2 (some .int) ∈ tw := tin_5 (List.mem_of_getElem? (i := 174) rfl) rfl
set_option maxRecDepth 20000 in
theorem cw_X11_cure : Cond.code yX11_cure cX11_cure 6 (some .int) ∈ tw := tin_4 (List.mem_of_getElem? (i := 237) rfl) rfl
set_option maxRecDepth 20000 in
theorem cw_X11_dayOrNone : Cond.code yX11_dayOrNone cX11_dayOrNone 1 (some .int) ∈ tw := tin_2 (List.mem_of_getElem? (i := 184) rfl) rfl
set_option maxRecDepth 20000 in
theorem cw_X11_days : Cond.code yX11_days cX11_days 2 (some .int) ∈ tw := tin_3 (List.mem_of_getElem? (i := 41) rfl) rfl
set_option maxRecDepth 20000 in
theorem cw_X11_docked : Cond.code yX11_docked cX11_docked 4 (some .int) ∈ tw := tin_5 (List.mem_of_getElem? (i := 140) rfl) rfl
set_option maxRecDepth 20000 in
theorem cw_X11_feed : Cond.code yX11_feed cX11_feed 4 (some .int) ∈ tw := tin_4 (List.mem_of_getElem? (i := 71) rfl) rfl
set_option maxRecDepth 20000 in
theorem cw_X11_harm : Cond.code yX11_harm cX11_harm 4 (some .int) ∈ tw := tin_5 (List.mem_of_getElem? (i := 56) rfl) rfl
set_option maxRecDepth 20000 in
theorem cw_X11_holds : Cond.code yX11_holds cX11_holds 4 (some .int) ∈ tw := tin_5 (List.mem_of_getElem? (i := 52) rfl) rfl
set_option maxRecDepth 20000 in
theorem cw_X11_init : Cond.code yX11_init cX11_init 1 none ∈ tw := tin_1 (List.mem_of_getElem? (i := 28) rfl) rfl
set_option maxRecDepth 20000 in
theorem cw_X11_isHalfList : Cond.code yX11_isHalfList cX11_isHalfList 1 (some .boolean) ∈ tw := tin_5 (List.mem_of_getElem? (i := 5) rfl) rfl
set_option maxRecDepth 20000 in
theorem cw_X11_isKnownDay : Cond.code yX11_isKnownDay cX11_isKnownDay 3 (some .boolean) ∈ tw := tin_3 (List.mem_of_getElem? (i := 232) rfl) rfl
set_option maxRecDepth 20000 in
theorem cw_X11_isLetter : Cond.code yX11_isLetter cX11_isLetter 1 (some .boolean) ∈ tw := tin_3 (List.mem_of_getElem? (i := 138) rfl) rfl
set_option maxRecDepth 20000 in
theorem cw_X11_isLiving : Cond.code yX11_isLiving cX11_isLiving 4 (some .boolean) ∈ tw := tin_4 (List.mem_of_getElem? (i := 233) rfl) rfl
set_option maxRecDepth 20000 in
theorem cw_X11_isMark : Cond.code yX11_isMark cX11_isMark 1 (some .boolean) ∈ tw := tin_2 (List.mem_of_getElem? (i := 98) rfl) rfl
set_option maxRecDepth 20000 in
theorem cw_X11_isOf : Cond.code yX11_isOf cX11_isOf 3 (some .int) ∈ tw := tin_2 (List.mem_of_getElem? (i := 79) rfl) rfl
set_option maxRecDepth 20000 in
theorem cw_X11_isStanding : Cond.code yX11_isStanding cX11_isStanding 3 (some .boolean) ∈ tw := tin_4 (List.mem_of_getElem? (i := 225) rfl) rfl
set_option maxRecDepth 20000 in
theorem cw_X11_isWithin : Cond.code yX11_isWithin cX11_isWithin 3 (some .boolean) ∈ tw := tin_2 (List.mem_of_getElem? (i := 68) rfl) rfl
set_option maxRecDepth 20000 in
theorem cw_X11_joined : Cond.code yX11_joined cX11_joined 2 (some .int) ∈ tw := tin_2 (List.mem_of_getElem? (i := 226) rfl) rfl
set_option maxRecDepth 20000 in
theorem cw_X11_law : Cond.code yX11_law cX11_law 3 (some .int) ∈ tw := tin_4 (List.mem_of_getElem? (i := 83) rfl) rfl
set_option maxRecDepth 20000 in
theorem cw_X11_lawFor : Cond.code yX11_lawFor cX11_lawFor 4 (some .int) ∈ tw := tin_4 (List.mem_of_getElem? (i := 195) rfl) rfl
set_option maxRecDepth 20000 in
theorem cw_X11_lay : Cond.code yX11_lay cX11_lay 3 (some .int) ∈ tw := tin_5 (List.mem_of_getElem? (i := 60) rfl) rfl
set_option maxRecDepth 20000 in
theorem cw_X11_leave : Cond.code yX11_leave cX11_leave 3 (some .int) ∈ tw := tin_2 (List.mem_of_getElem? (i := 168) rfl) rfl
set_option maxRecDepth 20000 in
theorem cw_X11_line : Cond.code yX11_line cX11_line 3 (some .int) ∈ tw := tin_2 (List.mem_of_getElem? (i := 189) rfl) rfl
set_option maxRecDepth 20000 in
theorem cw_X11_lives : Cond.code yX11_lives cX11_lives 4 (some .int) ∈ tw := tin_4 (List.mem_of_getElem? (i := 229) rfl) rfl
set_option maxRecDepth 20000 in
theorem cw_X11_makePlan : Cond.code yX11_makePlan cX11_makePlan 6 (some .boolean) ∈ tw := tin_5 (List.mem_of_getElem? (i := 82) rfl) rfl
set_option maxRecDepth 20000 in
theorem cw_X11_mark : Cond.code yX11_mark cX11_mark 6 (some .int) ∈ tw := tin_5 (List.mem_of_getElem? (i := 158) rfl) rfl
set_option maxRecDepth 20000 in
theorem cw_X11_member : Cond.code yX11_member cX11_member 5 (some .int) ∈ tw := tin_2 (List.mem_of_getElem? (i := 95) rfl) rfl
set_option maxRecDepth 20000 in
theorem cw_X11_move : Cond.code yX11_move cX11_move 5 (some .int) ∈ tw := tin_2 (List.mem_of_getElem? (i := 147) rfl) rfl
set_option maxRecDepth 20000 in
theorem cw_X11_name : Cond.code yX11_name cX11_name 5 (some .int) ∈ tw := tin_3 (List.mem_of_getElem? (i := 135) rfl) rfl
set_option maxRecDepth 20000 in
theorem cw_X11_notice : Cond.code yX11_notice cX11_notice 9 (some .int) ∈ tw := tin_5 (List.mem_of_getElem? (i := 2) rfl) rfl
set_option maxRecDepth 20000 in
theorem cw_X11_noticeAt : Cond.code yX11_noticeAt cX11_noticeAt 2 (some (.object "StrikeBallots$Notice")) ∈ tw := tin_5 (List.mem_of_getElem? (i := 48) rfl) rfl
set_option maxRecDepth 20000 in
theorem cw_X11_noticed : Cond.code yX11_noticed cX11_noticed 4 (some .int) ∈ tw := tin_5 (List.mem_of_getElem? (i := 44) rfl) rfl
set_option maxRecDepth 20000 in
theorem cw_X11_of : Cond.code yX11_of cX11_of 4 (some .int) ∈ tw := tin_2 (List.mem_of_getElem? (i := 172) rfl) rfl
set_option maxRecDepth 20000 in
theorem cw_X11_oneIf : Cond.code yX11_oneIf cX11_oneIf 1 (some .int) ∈ tw := tin_2 (List.mem_of_getElem? (i := 91) rfl) rfl
set_option maxRecDepth 20000 in
theorem cw_X11_open : Cond.code yX11_open cX11_open 2 (some .int) ∈ tw := tin_3 (List.mem_of_getElem? (i := 45) rfl) rfl
set_option maxRecDepth 20000 in
theorem cw_X11_parcel : Cond.code yX11_parcel cX11_parcel 5 (some .int) ∈ tw := tin_4 (List.mem_of_getElem? (i := 67) rfl) rfl
set_option maxRecDepth 20000 in
theorem cw_X11_parcels : Cond.code yX11_parcels cX11_parcels 3 (some .int) ∈ tw := tin_4 (List.mem_of_getElem? (i := 33) rfl) rfl
set_option maxRecDepth 20000 in
theorem cw_X11_plan : Cond.code yX11_plan cX11_plan 3 (some .int) ∈ tw := tin_5 (List.mem_of_getElem? (i := 78) rfl) rfl
set_option maxRecDepth 20000 in
theorem cw_X11_planned : Cond.code yX11_planned cX11_planned 3 (some .int) ∈ tw := tin_5 (List.mem_of_getElem? (i := 116) rfl) rfl
set_option maxRecDepth 20000 in
theorem cw_X11_roll : Cond.code yX11_roll cX11_roll 4 (some .int) ∈ tw := tin_2 (List.mem_of_getElem? (i := 203) rfl) rfl
set_option maxRecDepth 20000 in
theorem cw_X11_rolls : Cond.code yX11_rolls cX11_rolls 3 (some .int) ∈ tw := tin_3 (List.mem_of_getElem? (i := 12) rfl) rfl
set_option maxRecDepth 20000 in
theorem cw_X11_rule : Cond.code yX11_rule cX11_rule 4 (some .int) ∈ tw := tin_5 (List.mem_of_getElem? (i := 70) rfl) rfl
set_option maxRecDepth 20000 in
theorem cw_X11_says : Cond.code yX11_says cX11_says 5 (some .int) ∈ tw := tin_4 (List.mem_of_getElem? (i := 191) rfl) rfl
set_option maxRecDepth 20000 in
theorem cw_X11_send : Cond.code yX11_send cX11_send 4 (some .int) ∈ tw := tin_3 (List.mem_of_getElem? (i := 84) rfl) rfl
set_option maxRecDepth 20000 in
theorem cw_X11_sendAll : Cond.code yX11_sendAll cX11_sendAll 3 (some .int) ∈ tw := tin_3 (List.mem_of_getElem? (i := 105) rfl) rfl
set_option maxRecDepth 20000 in
theorem cw_X11_sheet : Cond.code yX11_sheet cX11_sheet 4 (some .int) ∈ tw := tin_5 (List.mem_of_getElem? (i := 146) rfl) rfl
set_option maxRecDepth 20000 in
theorem cw_X11_sheetAt : Cond.code yX11_sheetAt cX11_sheetAt 2 (some (.object "StrikeBallots$Sheet")) ∈ tw := tin_2 (List.mem_of_getElem? (i := 207) rfl) rfl
set_option maxRecDepth 20000 in
theorem cw_X11_stands : Cond.code yX11_stands cX11_stands 4 (some .int) ∈ tw := tin_4 (List.mem_of_getElem? (i := 221) rfl) rfl
set_option maxRecDepth 20000 in
theorem cw_X11_tell : Cond.code yX11_tell cX11_tell 2 (some .int) ∈ tw := tin_5 (List.mem_of_getElem? (i := 124) rfl) rfl
set_option maxRecDepth 20000 in
theorem cw_X11_told : Cond.code yX11_told cX11_told 4 (some .int) ∈ tw := tin_2 (List.mem_of_getElem? (i := 181) rfl) rfl
set_option maxRecDepth 20000 in
theorem cw_X11_trim : Cond.code yX11_trim cX11_trim 2 (some .int) ∈ tw := tin_4 (List.mem_of_getElem? (i := 79) rfl) rfl
set_option maxRecDepth 20000 in
theorem cw_X11_wipe : Cond.code yX11_wipe cX11_wipe 2 (some .int) ∈ tw := tin_2 (List.mem_of_getElem? (i := 222) rfl) rfl
set_option maxRecDepth 20000 in
theorem cw_X12_about : Cond.code yX12_about cX12_about 3 (some .int) ∈ tw := tin_7 (List.mem_of_getElem? (i := 46) rfl) rfl
set_option maxRecDepth 20000 in
theorem cw_X12_adds : Cond.code yX12_adds cX12_adds 6 none ∈ tw := tin_7 (List.mem_of_getElem? (i := 62) rfl) rfl
set_option maxRecDepth 20000 in
theorem cw_X12_and : Cond.code yX12_and cX12_and 3 (some .int) ∈ tw := tin_7 (List.mem_of_getElem? (i := 118) rfl) rfl
set_option maxRecDepth 20000 in
theorem cw_X12_at : Cond.code yX12_at cX12_at 2 (some .int) ∈ tw := tin_7 (List.mem_of_getElem? (i := 89) rfl) rfl
set_option maxRecDepth 20000 in
theorem cw_X12_back : Cond.code yX12_back cX12_back 5 (some .int) ∈ tw := tin_7 (List.mem_of_getElem? (i := 23) rfl) rfl
set_option maxRecDepth 20000 in
theorem cw_X12_bestDays : Cond.code yX12_bestDays cX12_bestDays 8 (some .int) ∈ tw := tin_7 (List.mem_of_getElem? (i := 231) rfl) rfl
set_option maxRecDepth 20000 in
theorem cw_X12_branch : Cond.code yX12_branch cX12_branch 2 (some .int) ∈ tw := tin_6 (List.mem_of_getElem? (i := 140) rfl) rfl
set_option maxRecDepth 20000 in
theorem cw_X12_branchOf : Cond.code yX12_branchOf cX12_branchOf 2 (some .int) ∈ tw := tin_6 (List.mem_of_getElem? (i := 173) rfl) rfl
set_option maxRecDepth 20000 in
theorem cw_X12_byteOf : Cond.code yX12_byteOf cX12_byteOf 2 (some .int) ∈ tw := tin_7 (List.mem_of_getElem? (i := 73) rfl) rfl
set_option maxRecDepth 20000 in
theorem cw_X12_canBe : Cond.code yX12_canBe cX12_canBe 6 (some .boolean) ∈ tw := tin_8 (List.mem_of_getElem? (i := 6) rfl) rfl
set_option maxRecDepth 20000 in
theorem cw_X12_check : Cond.code yX12_check cX12_check 8 (some .int) ∈ tw := tin_8 (List.mem_of_getElem? (i := 22) rfl) rfl
set_option maxRecDepth 20000 in
theorem cw_X12_close : Cond.code yX12_close cX12_close 2 (some .int) ∈ tw := tin_7 (List.mem_of_getElem? (i := 27) rfl) rfl
set_option maxRecDepth 20000 in
theorem cw_X12_copy : Cond.code yX12_copy cX12_copy 7 (some .int) ∈ tw := tin_8 (List.mem_of_getElem? (i := 40) rfl) rfl
set_option maxRecDepth 20000 in
theorem cw_X12_cost : Cond.code yX12_cost cX12_cost 2 (some .int) ∈ tw := tin_7 (List.mem_of_getElem? (i := 211) rfl) rfl
set_option maxRecDepth 20000 in
theorem cw_X12_costOf : Cond.code yX12_costOf cX12_costOf 4 (some .int) ∈ tw := tin_7 (List.mem_of_getElem? (i := 215) rfl) rfl
set_option maxRecDepth 20000 in
theorem cw_X12_count : Cond.code yX12_count cX12_count 4 (some .int) ∈ tw := tin_8 (List.mem_of_getElem? (i := 44) rfl) rfl
set_option maxRecDepth 20000 in
theorem cw_X12_cure : Cond.code yX12_cure cX12_cure 4 (some .int) ∈ tw := tin_7 (List.mem_of_getElem? (i := 176) rfl) rfl
set_option maxRecDepth 20000 in
theorem cw_X12_dayWage : Cond.code yX12_dayWage cX12_dayWage 2 (some .int) ∈ tw := tin_7 (List.mem_of_getElem? (i := 219) rfl) rfl
set_option maxRecDepth 20000 in
theorem cw_X12_days : Cond.code yX12_days cX12_days 2 (some .int) ∈ tw := tin_6 (List.mem_of_getElem? (i := 231) rfl) rfl
set_option maxRecDepth 20000 in
theorem cw_X12_docked : Cond.code yX12_docked cX12_docked 4 (some .int) ∈ tw := tin_8 (List.mem_of_getElem? (i := 26) rfl) rfl
set_option maxRecDepth 20000 in
theorem cw_X12_feed : Cond.code yX12_feed cX12_feed 5 (some .int) ∈ tw := tin_7 (List.mem_of_getElem? (i := 70) rfl) rfl
set_option maxRecDepth 20000 in
theorem cw_X12_figuresApart : Cond.code yX12_figuresApart cX12_figuresApart 6 (some .int) ∈ tw := tin_6 (List.mem_of_getElem? (i := 223) rfl) rfl
set_option maxRecDepth 20000 in
theorem cw_X12_fundBehind : Cond.code yX12_fundBehind cX12_fundBehind 6 (some .int) ∈ tw := tin_8 (List.mem_of_getElem? (i := 10) rfl) rfl
set_option maxRecDepth 20000 in
theorem cw_X12_gives : Cond.code yX12_gives cX12_gives 2 (some .int) ∈ tw := tin_7 (List.mem_of_getElem? (i := 156) rfl) rfl
set_option maxRecDepth 20000 in
theorem cw_X12_harm : Cond.code yX12_harm cX12_harm 4 (some .int) ∈ tw := tin_7 (List.mem_of_getElem? (i := 199) rfl) rfl
set_option maxRecDepth 20000 in
theorem cw_X12_harmOf : Cond.code yX12_harmOf cX12_harmOf 4 (some .int) ∈ tw := tin_7 (List.mem_of_getElem? (i := 239) rfl) rfl
set_option maxRecDepth 20000 in
theorem cw_X12_hasEntitled : Cond.code yX12_hasEntitled cX12_hasEntitled 5 (some .boolean) ∈ tw := tin_7 (List.mem_of_getElem? (i := 58) rfl) rfl
set_option maxRecDepth 20000 in
theorem cw_X12_holds : Cond.code yX12_holds cX12_holds 3 (some .int) ∈ tw := tin_7 (List.mem_of_getElem? (i := 195) rfl) rfl
set_option maxRecDepth 20000 in
theorem cw_X12_in : Cond.code yX12_in cX12_in 3 (some .boolean) ∈ tw := tin_6 (List.mem_of_getElem? (i := 143) rfl) rfl
set_option maxRecDepth 20000 in
theorem cw_X12_init : Cond.code yX12_init cX12_init 1 none ∈ tw := tin_5 (List.mem_of_getElem? (i := 184) rfl) rfl
set_option maxRecDepth 20000 in
theorem cw_X12_isBallot : Cond.code yX12_isBallot cX12_isBallot 2 (some .boolean) ∈ tw := tin_7 (List.mem_of_getElem? (i := 3) rfl) rfl
set_option maxRecDepth 20000 in
theorem cw_X12_isBranch : Cond.code yX12_isBranch cX12_isBranch 2 (some .boolean) ∈ tw := tin_6 (List.mem_of_getElem? (i := 153) rfl) rfl
set_option maxRecDepth 20000 in
theorem cw_X12_isDigit : Cond.code yX12_isDigit cX12_isDigit 1 (some .boolean) ∈ tw := tin_7 (List.mem_of_getElem? (i := 95) rfl) rfl
set_option maxRecDepth 20000 in
theorem cw_X12_isEntitled : Cond.code yX12_isEntitled cX12_isEntitled 3 (some .boolean) ∈ tw := tin_7 (List.mem_of_getElem? (i := 15) rfl) rfl
set_option maxRecDepth 20000 in
theorem cw_X12_isIn : Cond.code yX12_isIn cX12_isIn 5 (some .boolean) ∈ tw := tin_7 (List.mem_of_getElem? (i := 19) rfl) rfl
set_option maxRecDepth 20000 in
theorem cw_X12_isLetter : Cond.code yX12_isLetter cX12_isLetter 1 (some .boolean) ∈ tw := tin_7 (List.mem_of_getElem? (i := 92) rfl) rfl
set_option maxRecDepth 20000 in
theorem cw_X12_isList : Cond.code yX12_isList cX12_isList 5 (some .boolean) ∈ tw := tin_7 (List.mem_of_getElem? (i := 184) rfl) rfl
set_option maxRecDepth 20000 in
theorem cw_X12_isListed : Cond.code yX12_isListed cX12_isListed 3 (some .boolean) ∈ tw := tin_7 (List.mem_of_getElem? (i := 187) rfl) rfl
set_option maxRecDepth 20000 in
theorem cw_X12_isMember : Cond.code yX12_isMember cX12_isMember 2 (some .boolean) ∈ tw := tin_6 (List.mem_of_getElem? (i := 169) rfl) rfl
set_option maxRecDepth 20000 in
theorem cw_X12_isOf : Cond.code yX12_isOf cX12_isOf 3 (some .int) ∈ tw := tin_6 (List.mem_of_getElem? (i := 149) rfl) rfl
set_option maxRecDepth 20000 in
theorem cw_X12_isOfKind : Cond.code yX12_isOfKind cX12_isOfKind 3 (some .boolean) ∈ tw := tin_6 (List.mem_of_getElem? (i := 157) rfl) rfl
set_option maxRecDepth 20000 in
theorem cw_X12_isPlan : Cond.code yX12_isPlan cX12_isPlan 3 (some .boolean) ∈ tw := tin_7 (List.mem_of_getElem? (i := 227) rfl) rfl
set_option maxRecDepth 20000 in
theorem cw_X12_isSheet : Cond.code yX12_isSheet cX12_isSheet 1 (some .boolean) ∈ tw := tin_6 (List.mem_of_getElem? (i := 202) rfl) rfl
set_option maxRecDepth 20000 in
theorem cw_X12_isSign : Cond.code yX12_isSign cX12_isSign 2 (some .boolean) ∈ tw := tin_7 (List.mem_of_getElem? (i := 138) rfl) rfl
set_option maxRecDepth 20000 in
theorem cw_X12_isTime : Cond.code yX12_isTime cX12_isTime 3 (some .boolean) ∈ tw := tin_7 (List.mem_of_getElem? (i := 38) rfl) rfl
set_option maxRecDepth 20000 in
theorem cw_X12_isVital : Cond.code yX12_isVital cX12_isVital 4 (some .boolean) ∈ tw := tin_7 (List.mem_of_getElem? (i := 235) rfl) rfl
set_option maxRecDepth 20000 in
theorem cw_X12_isWord : Cond.code yX12_isWord cX12_isWord 4 (some .boolean) ∈ tw := tin_7 (List.mem_of_getElem? (i := 104) rfl) rfl
set_option maxRecDepth 20000 in
theorem cw_X12_joined : Cond.code yX12_joined cX12_joined 2 (some .int) ∈ tw := tin_6 (List.mem_of_getElem? (i := 212) rfl) rfl
set_option maxRecDepth 20000 in
theorem cw_X12_joins : Cond.code yX12_joins cX12_joins 4 none ∈ tw := tin_6 (List.mem_of_getElem? (i := 220) rfl) rfl
set_option maxRecDepth 20000 in
theorem cw_X12_joinsAll : Cond.code yX12_joinsAll cX12_joinsAll 2 none ∈ tw := tin_6 (List.mem_of_getElem? (i := 216) rfl) rfl
set_option maxRecDepth 20000 in
theorem cw_X12_knows : Cond.code yX12_knows cX12_knows 7 none ∈ tw := tin_7 (List.mem_of_getElem? (i := 42) rfl) rfl
set_option maxRecDepth 20000 in
theorem cw_X12_law : Cond.code yX12_law cX12_law 3 (some .int) ∈ tw := tin_7 (List.mem_of_getElem? (i := 81) rfl) rfl
set_option maxRecDepth 20000 in
theorem cw_X12_lay : Cond.code yX12_lay cX12_lay 5 (some .int) ∈ tw := tin_7 (List.mem_of_getElem? (i := 203) rfl) rfl
set_option maxRecDepth 20000 in
theorem cw_X12_leave : Cond.code yX12_leave cX12_leave 2 (some .int) ∈ tw := tin_6 (List.mem_of_getElem? (i := 178) rfl) rfl
set_option maxRecDepth 20000 in
theorem cw_X12_line : Cond.code yX12_line cX12_line 3 (some .int) ∈ tw := tin_6 (List.mem_of_getElem? (i := 195) rfl) rfl
set_option maxRecDepth 20000 in
theorem cw_X12_lives : Cond.code yX12_lives cX12_lives 3 (some .int) ∈ tw := tin_7 (List.mem_of_getElem? (i := 168) rfl) rfl
set_option maxRecDepth 20000 in
theorem cw_X12_livesOn : Cond.code yX12_livesOn cX12_livesOn 3 (some .boolean) ∈ tw := tin_7 (List.mem_of_getElem? (i := 172) rfl) rfl
set_option maxRecDepth 20000 in
theorem cw_X12_many : Cond.code yX12_many cX12_many 3 (some .int) ∈ tw := tin_8 (List.mem_of_getElem? (i := 2) rfl) rfl
set_option maxRecDepth 20000 in
theorem cw_X12_mark : Cond.code yX12_mark cX12_mark 5 (some .int) ∈ tw := tin_8 (List.mem_of_getElem? (i := 35) rfl) rfl
set_option maxRecDepth 20000 in
theorem cw_X12_member : Cond.code yX12_member cX12_member 5 (some .int) ∈ tw := tin_6 (List.mem_of_getElem? (i := 161) rfl) rfl
set_option maxRecDepth 20000 in
theorem cw_X12_move : Cond.code yX12_move cX12_move 4 (some .int) ∈ tw := tin_6 (List.mem_of_getElem? (i := 165) rfl) rfl
set_option maxRecDepth 20000 in
theorem cw_X12_name : Cond.code yX12_name cX12_name 4 (some .int) ∈ tw := tin_7 (List.mem_of_getElem? (i := 31) rfl) rfl
set_option maxRecDepth 20000 in
theorem cw_X12_nameOf : Cond.code yX12_nameOf cX12_nameOf 1 (some .int) ∈ tw := tin_7 (List.mem_of_getElem? (i := 34) rfl) rfl
set_option maxRecDepth 20000 in
theorem cw_X12_next : Cond.code yX12_next cX12_next 5 none ∈ tw := tin_7 (List.mem_of_getElem? (i := 85) rfl) rfl
set_option maxRecDepth 20000 in
theorem cw_X12_notice : Cond.code yX12_notice cX12_notice 9 (some .int) ∈ tw := tin_7 (List.mem_of_getElem? (i := 180) rfl) rfl
set_option maxRecDepth 20000 in
theorem cw_X12_noticed : Cond.code yX12_noticed cX12_noticed 3 (some .int) ∈ tw := tin_7 (List.mem_of_getElem? (i := 191) rfl) rfl
set_option maxRecDepth 20000 in
theorem cw_X12_number : Cond.code yX12_number cX12_number 3 (some .int) ∈ tw := tin_7 (List.mem_of_getElem? (i := 142) rfl) rfl
set_option maxRecDepth 20000 in
theorem cw_X12_of : Cond.code yX12_of cX12_of 3 (some .int) ∈ tw := tin_6 (List.mem_of_getElem? (i := 182) rfl) rfl
set_option maxRecDepth 20000 in
theorem cw_X12_ofOn : Cond.code yX12_ofOn cX12_ofOn 5 (some .int) ∈ tw := tin_6 (List.mem_of_getElem? (i := 186) rfl) rfl
set_option maxRecDepth 20000 in
theorem cw_X12_one : Cond.code yX12_one cX12_one 3 (some .int) ∈ tw := tin_7 (List.mem_of_getElem? (i := 134) rfl) rfl
set_option maxRecDepth 20000 in
theorem cw_X12_open : Cond.code yX12_open cX12_open 3 (some .int) ∈ tw := tin_6 (List.mem_of_getElem? (i := 235) rfl) rfl
set_option maxRecDepth 20000 in
theorem cw_X12_or : Cond.code yX12_or cX12_or 3 (some .int) ∈ tw := tin_7 (List.mem_of_getElem? (i := 114) rfl) rfl
set_option maxRecDepth 20000 in
theorem cw_X12_papers : Cond.code yX12_papers cX12_papers 4 (some .int) ∈ tw := tin_7 (List.mem_of_getElem? (i := 7) rfl) rfl
set_option maxRecDepth 20000 in
theorem cw_X12_parcel : Cond.code yX12_parcel cX12_parcel 4 (some .int) ∈ tw := tin_7 (List.mem_of_getElem? (i := 66) rfl) rfl
set_option maxRecDepth 20000 in
theorem cw_X12_parcels : Cond.code yX12_parcels cX12_parcels 2 (some .int) ∈ tw := tin_7 (List.mem_of_getElem? (i := 50) rfl) rfl
set_option maxRecDepth 20000 in
theorem cw_X12_parts : Cond.code yX12_parts cX12_parts 4 none ∈ tw := tin_7 (List.mem_of_getElem? (i := 54) rfl) rfl
set_option maxRecDepth 20000 in
theorem cw_X12_plan : Cond.code yX12_plan cX12_plan 3 (some .int) ∈ tw := tin_7 (List.mem_of_getElem? (i := 223) rfl) rfl
set_option maxRecDepth 20000 in
theorem cw_X12_planned : Cond.code yX12_planned cX12_planned 3 (some .int) ∈ tw := tin_8 (List.mem_of_getElem? (i := 14) rfl) rfl
set_option maxRecDepth 20000 in
theorem cw_X12_reads : Cond.code yX12_reads cX12_reads 4 none ∈ tw := tin_7 (List.mem_of_getElem? (i := 100) rfl) rfl
set_option maxRecDepth 20000 in
theorem cw_X12_roll : Cond.code yX12_roll cX12_roll 6 (some .int) ∈ tw := tin_6 (List.mem_of_getElem? (i := 199) rfl) rfl
set_option maxRecDepth 20000 in
theorem cw_X12_rolls : Cond.code yX12_rolls cX12_rolls 6 (some .int) ∈ tw := tin_6 (List.mem_of_getElem? (i := 227) rfl) rfl
set_option maxRecDepth 20000 in
theorem cw_X12_rule : Cond.code yX12_rule cX12_rule 4 (some .int) ∈ tw := tin_7 (List.mem_of_getElem? (i := 207) rfl) rfl
set_option maxRecDepth 20000 in
theorem cw_X12_says : Cond.code yX12_says cX12_says 4 (some .int) ∈ tw := tin_7 (List.mem_of_getElem? (i := 148) rfl) rfl
set_option maxRecDepth 20000 in
theorem cw_X12_saysOn : Cond.code yX12_saysOn cX12_saysOn 4 (some .int) ∈ tw := tin_7 (List.mem_of_getElem? (i := 152) rfl) rfl
set_option maxRecDepth 20000 in
theorem cw_X12_send : Cond.code yX12_send cX12_send 3 (some .int) ∈ tw := tin_6 (List.mem_of_getElem? (i := 239) rfl) rfl
set_option maxRecDepth 20000 in
theorem cw_X12_sendAll : Cond.code yX12_sendAll cX12_sendAll 4 (some .int) ∈ tw := tin_7 (List.mem_of_getElem? (i := 11) rfl) rfl
set_option maxRecDepth 20000 in
theorem cw_X12_sheet : Cond.code yX12_sheet cX12_sheet 4 (some .int) ∈ tw := tin_8 (List.mem_of_getElem? (i := 30) rfl) rfl
set_option maxRecDepth 20000 in
theorem cw_X12_stands : Cond.code yX12_stands cX12_stands 3 (some .int) ∈ tw := tin_7 (List.mem_of_getElem? (i := 160) rfl) rfl
set_option maxRecDepth 20000 in
theorem cw_X12_standsOn : Cond.code yX12_standsOn cX12_standsOn 3 (some .boolean) ∈ tw := tin_7 (List.mem_of_getElem? (i := 164) rfl) rfl
set_option maxRecDepth 20000 in
theorem cw_X12_sum : Cond.code yX12_sum cX12_sum 4 (some .int) ∈ tw := tin_7 (List.mem_of_getElem? (i := 126) rfl) rfl
set_option maxRecDepth 20000 in
theorem cw_X12_takes : Cond.code yX12_takes cX12_takes 2 none ∈ tw := tin_7 (List.mem_of_getElem? (i := 110) rfl) rfl
set_option maxRecDepth 20000 in
theorem cw_X12_tell : Cond.code yX12_tell cX12_tell 2 (some .int) ∈ tw := tin_8 (List.mem_of_getElem? (i := 18) rfl) rfl
set_option maxRecDepth 20000 in
theorem cw_X12_term : Cond.code yX12_term cX12_term 4 (some .int) ∈ tw := tin_7 (List.mem_of_getElem? (i := 130) rfl) rfl
set_option maxRecDepth 20000 in
theorem cw_X12_test : Cond.code yX12_test cX12_test 5 (some .int) ∈ tw := tin_7 (List.mem_of_getElem? (i := 122) rfl) rfl
set_option maxRecDepth 20000 in
theorem cw_X12_told : Cond.code yX12_told cX12_told 3 (some .int) ∈ tw := tin_6 (List.mem_of_getElem? (i := 191) rfl) rfl
set_option maxRecDepth 20000 in
theorem cw_X12_trim : Cond.code yX12_trim cX12_trim 2 (some .int) ∈ tw := tin_7 (List.mem_of_getElem? (i := 77) rfl) rfl
set_option maxRecDepth 20000 in
theorem cw_X12_wipe : Cond.code yX12_wipe cX12_wipe 2 (some .int) ∈ tw := tin_6 (List.mem_of_getElem? (i := 208) rfl) rfl
set_option maxRecDepth 20000 in
theorem cw_X1_apply : Cond.code yX1_apply cX1_apply 3 (some .int) ∈ tw := tin_4 (List.mem_of_getElem? (i := 217) rfl) rfl
set_option maxRecDepth 20000 in
theorem cw_X1_init : Cond.code yX1_init cX1_init 1 none ∈ tw := tin_1 (List.mem_of_getElem? (i := 151) rfl) rfl
set_option maxRecDepth 20000 in
theorem cw_X1_isBallotName : Cond.code yX1_isBallotName cX1_isBallotName 1 (some .boolean) ∈ tw := tin_3 (List.mem_of_getElem? (i := 141) rfl) rfl
set_option maxRecDepth 20000 in
theorem cw_X1_isNameHere : Cond.code yX1_isNameHere cX1_isNameHere 2 (some .boolean) ∈ tw := tin_4 (List.mem_of_getElem? (i := 168) rfl) rfl
set_option maxRecDepth 20000 in
theorem cw_X1_levelOf : Cond.code yX1_levelOf cX1_levelOf 1 (some .int) ∈ tw := tin_4 (List.mem_of_getElem? (i := 181) rfl) rfl
set_option maxRecDepth 20000 in
theorem cw_X1_pop : Cond.code yX1_pop cX1_pop 1 (some .int) ∈ tw := tin_4 (List.mem_of_getElem? (i := 213) rfl) rfl
set_option maxRecDepth 20000 in
theorem cw_X1_push : Cond.code yX1_push cX1_push 2 none ∈ tw := tin_4 (List.mem_of_getElem? (i := 209) rfl) rfl
set_option maxRecDepth 20000 in
theorem cw_X1_readFrom : Cond.code yX1_readFrom cX1_readFrom 2 (some .boolean) ∈ tw := tin_4 (List.mem_of_getElem? (i := 87) rfl) rfl
set_option maxRecDepth 20000 in
theorem cw_X1_readLevel : Cond.code yX1_readLevel cX1_readLevel 8 (some .boolean) ∈ tw := tin_4 (List.mem_of_getElem? (i := 144) rfl) rfl
set_option maxRecDepth 20000 in
theorem cw_X1_readPart : Cond.code yX1_readPart cX1_readPart 7 (some .boolean) ∈ tw := tin_4 (List.mem_of_getElem? (i := 148) rfl) rfl
set_option maxRecDepth 20000 in
theorem cw_X1_readSection : Cond.code yX1_readSection cX1_readSection 4 (some .boolean) ∈ tw := tin_4 (List.mem_of_getElem? (i := 114) rfl) rfl
set_option maxRecDepth 20000 in
theorem cw_X1_takeClosing : Cond.code yX1_takeClosing cX1_takeClosing 2 (some .boolean) ∈ tw := tin_4 (List.mem_of_getElem? (i := 178) rfl) rfl
set_option maxRecDepth 20000 in
theorem cw_X1_takeOperand : Cond.code yX1_takeOperand cX1_takeOperand 2 (some .boolean) ∈ tw := tin_4 (List.mem_of_getElem? (i := 156) rfl) rfl
set_option maxRecDepth 20000 in
theorem cw_X1_valueOf : Cond.code yX1_valueOf cX1_valueOf 5 (some .int) ∈ tw := tin_4 (List.mem_of_getElem? (i := 199) rfl) rfl
set_option maxRecDepth 20000 in
theorem cw_X1_work : Cond.code yX1_work cX1_work 5 none ∈ tw := tin_4 (List.mem_of_getElem? (i := 204) rfl) rfl
set_option maxRecDepth 20000 in
theorem cw_X1_write : Cond.code yX1_write cX1_write 2 none ∈ tw := tin_4 (List.mem_of_getElem? (i := 160) rfl) rfl
set_option maxRecDepth 20000 in
theorem cw_X2_branchOn : Cond.code yX2_branchOn cX2_branchOn 4 (some .int) ∈ tw := tin_2 (List.mem_of_getElem? (i := 176) rfl) rfl
set_option maxRecDepth 20000 in
theorem cw_X2_dayWage : Cond.code yX2_dayWage cX2_dayWage 1 (some .int) ∈ tw := tin_5 (List.mem_of_getElem? (i := 90) rfl) rfl
set_option maxRecDepth 20000 in
theorem cw_X2_goTo : Cond.code yX2_goTo cX2_goTo 3 (some .boolean) ∈ tw := tin_2 (List.mem_of_getElem? (i := 164) rfl) rfl
set_option maxRecDepth 20000 in
theorem cw_X2_hasLeft : Cond.code yX2_hasLeft cX2_hasLeft 1 (some .boolean) ∈ tw := tin_2 (List.mem_of_getElem? (i := 159) rfl) rfl
set_option maxRecDepth 20000 in
theorem cw_X2_init : Cond.code yX2_init cX2_init 6 none ∈ tw := tin_2 (List.mem_of_getElem? (i := 104) rfl) rfl
set_option maxRecDepth 20000 in
theorem cw_X2_lastBranch : Cond.code yX2_lastBranch cX2_lastBranch 1 (some .int) ∈ tw := tin_2 (List.mem_of_getElem? (i := 155) rfl) rfl
set_option maxRecDepth 20000 in
theorem cw_X3_addOne : Cond.code yX3_addOne cX3_addOne 2 none ∈ tw := tin_4 (List.mem_of_getElem? (i := 9) rfl) rfl
set_option maxRecDepth 20000 in
theorem cw_X3_clear : Cond.code yX3_clear cX3_clear 1 none ∈ tw := tin_4 (List.mem_of_getElem? (i := 0) rfl) rfl
set_option maxRecDepth 20000 in
theorem cw_X3_init : Cond.code yX3_init cX3_init 1 none ∈ tw := tin_1 (List.mem_of_getElem? (i := 183) rfl) rfl
set_option maxRecDepth 20000 in
theorem cw_X3_put : Cond.code yX3_put cX3_put 3 none ∈ tw := tin_4 (List.mem_of_getElem? (i := 20) rfl) rfl
set_option maxRecDepth 20000 in
theorem cw_X3_valueOf : Cond.code yX3_valueOf cX3_valueOf 2 (some .int) ∈ tw := tin_4 (List.mem_of_getElem? (i := 24) rfl) rfl
set_option maxRecDepth 20000 in
theorem cw_X4_init : Cond.code yX4_init cX4_init 4 none ∈ tw := tin_5 (List.mem_of_getElem? (i := 9) rfl) rfl
set_option maxRecDepth 20000 in
theorem cw_X5_addBranch : Cond.code yX5_addBranch cX5_addBranch 6 none ∈ tw := tin_4 (List.mem_of_getElem? (i := 54) rfl) rfl
set_option maxRecDepth 20000 in
theorem cw_X5_begin : Cond.code yX5_begin cX5_begin 1 none ∈ tw := tin_4 (List.mem_of_getElem? (i := 50) rfl) rfl
set_option maxRecDepth 20000 in
theorem cw_X5_gather : Cond.code yX5_gather cX5_gather 4 none ∈ tw := tin_4 (List.mem_of_getElem? (i := 37) rfl) rfl
set_option maxRecDepth 20000 in
theorem cw_X5_init : Cond.code yX5_init cX5_init 1 none ∈ tw := tin_1 (List.mem_of_getElem? (i := 100) rfl) rfl
set_option maxRecDepth 20000 in
theorem cw_X5_joinLastTwo : Cond.code yX5_joinLastTwo cX5_joinLastTwo 2 none ∈ tw := tin_4 (List.mem_of_getElem? (i := 63) rfl) rfl
set_option maxRecDepth 20000 in
theorem cw_X6_choose : Cond.code yX6_choose cX6_choose 7 none ∈ tw := tin_5 (List.mem_of_getElem? (i := 102) rfl) rfl
set_option maxRecDepth 20000 in
theorem cw_X6_compareRows : Cond.code yX6_compareRows cX6_compareRows 5 (some .int) ∈ tw := tin_5 (List.mem_of_getElem? (i := 132) rfl) rfl
set_option maxRecDepth 20000 in
theorem cw_X6_init : Cond.code yX6_init cX6_init 1 none ∈ tw := tin_1 (List.mem_of_getElem? (i := 195) rfl) rfl
set_option maxRecDepth 20000 in
theorem cw_X6_isTold : Cond.code yX6_isTold cX6_isTold 4 (some .boolean) ∈ tw := tin_5 (List.mem_of_getElem? (i := 136) rfl) rfl
set_option maxRecDepth 20000 in
theorem cw_X6_keepBetter : Cond.code yX6_keepBetter cX6_keepBetter 5 none ∈ tw := tin_5 (List.mem_of_getElem? (i := 106) rfl) rfl
set_option maxRecDepth 20000 in
theorem cw_X6_make : Cond.code yX6_make cX6_make 5 none ∈ tw := tin_5 (List.mem_of_getElem? (i := 98) rfl) rfl
set_option maxRecDepth 20000 in
theorem cw_X6_takeHarms : Cond.code yX6_takeHarms cX6_takeHarms 5 (some .int) ∈ tw := tin_5 (List.mem_of_getElem? (i := 64) rfl) rfl
set_option maxRecDepth 20000 in
theorem cw_X7_addLine : Cond.code yX7_addLine cX7_addLine 3 (some .int) ∈ tw := tin_2 (List.mem_of_getElem? (i := 197) rfl) rfl
set_option maxRecDepth 20000 in
theorem cw_X7_addLines : Cond.code yX7_addLines cX7_addLines 5 (some .int) ∈ tw := tin_2 (List.mem_of_getElem? (i := 216) rfl) rfl
set_option maxRecDepth 20000 in
theorem cw_X7_differingFigures : Cond.code yX7_differingFigures cX7_differingFigures 4 (some .int) ∈ tw := tin_3 (List.mem_of_getElem? (i := 7) rfl) rfl
set_option maxRecDepth 20000 in
theorem cw_X7_init : Cond.code yX7_init cX7_init 2 none ∈ tw := tin_1 (List.mem_of_getElem? (i := 68) rfl) rfl
set_option maxRecDepth 20000 in
theorem cw_X7_isFull : Cond.code yX7_isFull cX7_isFull 1 (some .boolean) ∈ tw := tin_2 (List.mem_of_getElem? (i := 193) rfl) rfl
set_option maxRecDepth 20000 in
theorem cw_X7_join : Cond.code yX7_join cX7_join 1 none ∈ tw := tin_2 (List.mem_of_getElem? (i := 230) rfl) rfl
set_option maxRecDepth 20000 in
theorem cw_X7_joinThoseWith : Cond.code yX7_joinThoseWith cX7_joinThoseWith 4 none ∈ tw := tin_2 (List.mem_of_getElem? (i := 238) rfl) rfl
set_option maxRecDepth 20000 in
theorem cw_X7_joinedLinesOf : Cond.code yX7_joinedLinesOf cX7_joinedLinesOf 6 (some .int) ∈ tw := tin_3 (List.mem_of_getElem? (i := 32) rfl) rfl
set_option maxRecDepth 20000 in
theorem cw_X7_linesOf : Cond.code yX7_linesOf cX7_linesOf 4 (some .int) ∈ tw := tin_3 (List.mem_of_getElem? (i := 28) rfl) rfl
set_option maxRecDepth 20000 in
theorem cw_X7_membersWithout : Cond.code yX7_membersWithout cX7_membersWithout 5 (some .int) ∈ tw := tin_3 (List.mem_of_getElem? (i := 36) rfl) rfl
set_option maxRecDepth 20000 in
theorem cw_X7_partnerFor : Cond.code yX7_partnerFor cX7_partnerFor 5 (some .int) ∈ tw := tin_3 (List.mem_of_getElem? (i := 2) rfl) rfl
set_option maxRecDepth 20000 in
theorem cw_X8_clearTo : Cond.code yX8_clearTo cX8_clearTo 2 none ∈ tw := tin_5 (List.mem_of_getElem? (i := 151) rfl) rfl
set_option maxRecDepth 20000 in
theorem cw_X8_hasPlaces : Cond.code yX8_hasPlaces cX8_hasPlaces 3 (some .boolean) ∈ tw := tin_5 (List.mem_of_getElem? (i := 167) rfl) rfl
set_option maxRecDepth 20000 in
theorem cw_X8_init : Cond.code yX8_init cX8_init 1 none ∈ tw := tin_1 (List.mem_of_getElem? (i := 237) rfl) rfl
set_option maxRecDepth 20000 in
theorem cw_X8_isMissing : Cond.code yX8_isMissing cX8_isMissing 1 (some .boolean) ∈ tw := tin_2 (List.mem_of_getElem? (i := 211) rfl) rfl
set_option maxRecDepth 20000 in
theorem cw_X9_addFour : Cond.code yX9_addFour cX9_addFour 3 none ∈ tw := tin_4 (List.mem_of_getElem? (i := 75) rfl) rfl
set_option maxRecDepth 20000 in
theorem cw_X9_byteAt : Cond.code yX9_byteAt cX9_byteAt 2 (some .int) ∈ tw := tin_4 (List.mem_of_getElem? (i := 99) rfl) rfl
set_option maxRecDepth 20000 in
theorem cw_X9_goOn : Cond.code yX9_goOn cX9_goOn 2 none ∈ tw := tin_4 (List.mem_of_getElem? (i := 95) rfl) rfl
set_option maxRecDepth 20000 in
theorem cw_X9_init : Cond.code yX9_init cX9_init 1 none ∈ tw := tin_1 (List.mem_of_getElem? (i := 127) rfl) rfl
set_option maxRecDepth 20000 in
theorem cw_X9_isAtEnd : Cond.code yX9_isAtEnd cX9_isAtEnd 1 (some .boolean) ∈ tw := tin_4 (List.mem_of_getElem? (i := 187) rfl) rfl
set_option maxRecDepth 20000 in
theorem cw_X9_isAtWord : Cond.code yX9_isAtWord cX9_isAtWord 3 (some .boolean) ∈ tw := tin_4 (List.mem_of_getElem? (i := 118) rfl) rfl
set_option maxRecDepth 20000 in
theorem cw_X9_isRow : Cond.code yX9_isRow cX9_isRow 1 (some .boolean) ∈ tw := tin_4 (List.mem_of_getElem? (i := 109) rfl) rfl
set_option maxRecDepth 20000 in
theorem cw_X9_letterAtHand : Cond.code yX9_letterAtHand cX9_letterAtHand 1 (some .char) ∈ tw := tin_4 (List.mem_of_getElem? (i := 164) rfl) rfl
set_option maxRecDepth 20000 in
theorem cw_X9_numberAtHand : Cond.code yX9_numberAtHand cX9_numberAtHand 3 (some .int) ∈ tw := tin_4 (List.mem_of_getElem? (i := 152) rfl) rfl
set_option maxRecDepth 20000 in
theorem cw_X9_rewind : Cond.code yX9_rewind cX9_rewind 1 none ∈ tw := tin_4 (List.mem_of_getElem? (i := 91) rfl) rfl
set_option maxRecDepth 20000 in
theorem cw_X9_signAtHand : Cond.code yX9_signAtHand cX9_signAtHand 1 (some .char) ∈ tw := tin_4 (List.mem_of_getElem? (i := 174) rfl) rfl
set_option maxRecDepth 20000 in
theorem cw_X9_sortAt : Cond.code yX9_sortAt cX9_sortAt 3 (some .int) ∈ tw := tin_4 (List.mem_of_getElem? (i := 103) rfl) rfl
end
theorem mcw_0 : ∀ q ∈ mdl_0, Cond.code q.1 q.2.1 q.2.2.1 q.2.2.2.1 ∈ tw := List.forall_mem_cons.mpr ⟨cw_J0_charAt_5068e, List.forall_mem_cons.mpr ⟨cw_J0_checkBoundsBeginEnd_23922, List.forall_mem_cons.mpr ⟨cw_J0_checkIndex_df160, List.forall_mem_cons.mpr ⟨cw_J0_coder_7d493, List.forall_mem_cons.mpr ⟨cw_J0_indexOf_0f7a4, List.forall_mem_cons.mpr ⟨cw_J0_indexOf_7cf53, List.forall_mem_cons.mpr ⟨cw_J0_isLatin1_aae02, List.forall_mem_cons.mpr ⟨cw_J0_length_8abf5, List.forall_mem_cons.mpr ⟨cw_J11_highSurrogate_5068e, List.forall_mem_cons.mpr ⟨cw_J11_isValidCodePoint_9a6ad, List.forall_mem_cons.mpr ⟨cw_J11_lowSurrogate_5068e, List.forall_mem_cons.mpr ⟨cw_J13_bitCount_95d88, List.forall_mem_cons.mpr ⟨cw_J1_canEncode_9a6ad, List.forall_mem_cons.mpr ⟨cw_J1_charAt_3b067, List.forall_mem_cons.mpr ⟨cw_J1_indexOfChar_4cfef, List.forall_mem_cons.mpr ⟨cw_J1_indexOf_4cfef, List.forall_mem_cons.mpr ⟨cw_J2_charAt_3b067, List.forall_mem_cons.mpr ⟨cw_J2_checkBoundsBeginEnd_d044e, List.forall_mem_cons.mpr ⟨cw_J2_checkIndex_2214a, List.forall_mem_cons.mpr ⟨cw_J2_getChar_3b067, List.forall_mem_cons.mpr ⟨cw_J2_indexOfCharUnsafe_4cfef, List.forall_mem_cons.mpr ⟨cw_J2_indexOfChar_4cfef, List.forall_mem_cons.mpr ⟨cw_J2_indexOfSupplementary_4cfef, List.forall_mem_cons.mpr ⟨cw_J2_indexOf_4cfef, List.forall_mem_cons.mpr ⟨cw_J2_length_9d52b, List.forall_mem_cons.mpr ⟨cw_J3_checkFromToIndex_8c36e, List.forall_mem_cons.mpr ⟨cw_J3_checkIndex_8e157, List.forall_mem_cons.mpr ⟨cw_J6_bitCount_0f7a4, List.forall_mem_cons.mpr ⟨cw_J7_fill_53178, List.forall_mem_cons.mpr ⟨cw_J7_fill_fb410, List.forall_mem_cons.mpr ⟨cw_X0_entitledOf, List.forall_mem_cons.mpr ⟨cw_X0_hasBranch, List.forall_mem_cons.mpr ⟨cw_X0_hasClosed, List.forall_mem_cons.mpr ⟨cw_X0_hasHeard, List.forall_mem_cons.mpr ⟨cw_X0_hasSent, List.forall_mem_cons.mpr ⟨cw_X0_hear, List.forall_mem_cons.mpr ⟨cw_X0_heardOf, List.forall_mem_cons.mpr ⟨cw_X0_init, List.forall_mem_cons.mpr ⟨cw_X0_post, List.forall_mem_cons.mpr ⟨cw_X0_postToMissed, fun _ h => absurd h List.not_mem_nil⟩⟩⟩⟩⟩⟩⟩⟩⟩⟩⟩⟩⟩⟩⟩⟩⟩⟩⟩⟩⟩⟩⟩⟩⟩⟩⟩⟩⟩⟩⟩⟩⟩⟩⟩⟩⟩⟩⟩⟩
theorem mdl_ok_0 : mdl_0.all ckD = true := by decide +kernel
theorem mcw_1 : ∀ q ∈ mdl_1, Cond.code q.1 q.2.1 q.2.2.1 q.2.2.2.1 ∈ tw := List.forall_mem_cons.mpr ⟨cw_X0_tellEntitled, List.forall_mem_cons.mpr ⟨cw_X0_tellNames, List.forall_mem_cons.mpr ⟨cw_X10_addBranch, List.forall_mem_cons.mpr ⟨cw_X10_addMember, List.forall_mem_cons.mpr ⟨cw_X10_branchOn, List.forall_mem_cons.mpr ⟨cw_X10_hasBranch, List.forall_mem_cons.mpr ⟨cw_X10_hasVital, List.forall_mem_cons.mpr ⟨cw_X10_init, List.forall_mem_cons.mpr ⟨cw_X10_isAmong, List.forall_mem_cons.mpr ⟨cw_X10_isBranchOf, List.forall_mem_cons.mpr ⟨cw_X10_isKind, List.forall_mem_cons.mpr ⟨cw_X10_memberAt, List.forall_mem_cons.mpr ⟨cw_X10_sizeOf, List.forall_mem_cons.mpr ⟨cw_X10_stayers, List.forall_mem_cons.mpr ⟨cw_X10_strikePay, List.forall_mem_cons.mpr ⟨cw_X10_strikesVital, List.forall_mem_cons.mpr ⟨cw_X10_wrongIn, List.forall_mem_cons.mpr ⟨cw_X11_about, List.forall_mem_cons.mpr ⟨cw_X11_back, List.forall_mem_cons.mpr ⟨cw_X11_ballotAt, List.forall_mem_cons.mpr ⟨cw_X11_branch, List.forall_mem_cons.mpr ⟨cw_X11_check, List.forall_mem_cons.mpr ⟨cw_X11_close, List.forall_mem_cons.mpr ⟨cw_X11_copy, List.forall_mem_cons.mpr ⟨cw_X11_cost, List.forall_mem_cons.mpr ⟨cw_X11_count, List.forall_mem_cons.mpr ⟨cw_X11_cure, List.forall_mem_cons.mpr ⟨cw_X11_dayOrNone, List.forall_mem_cons.mpr ⟨cw_X11_days, List.forall_mem_cons.mpr ⟨cw_X11_docked, List.forall_mem_cons.mpr ⟨cw_X11_feed, List.forall_mem_cons.mpr ⟨cw_X11_harm, List.forall_mem_cons.mpr ⟨cw_X11_holds, List.forall_mem_cons.mpr ⟨cw_X11_init, List.forall_mem_cons.mpr ⟨cw_X11_isHalfList, List.forall_mem_cons.mpr ⟨cw_X11_isKnownDay, List.forall_mem_cons.mpr ⟨cw_X11_isLetter, List.forall_mem_cons.mpr ⟨cw_X11_isLiving, List.forall_mem_cons.mpr ⟨cw_X11_isMark, List.forall_mem_cons.mpr ⟨cw_X11_isOf, fun _ h => absurd h List.not_mem_nil⟩⟩⟩⟩⟩⟩⟩⟩⟩⟩⟩⟩⟩⟩⟩⟩⟩⟩⟩⟩⟩⟩⟩⟩⟩⟩⟩⟩⟩⟩⟩⟩⟩⟩⟩⟩⟩⟩⟩⟩
theorem mdl_ok_1 : mdl_1.all ckD = true := by decide +kernel
theorem mcw_2 : ∀ q ∈ mdl_2, Cond.code q.1 q.2.1 q.2.2.1 q.2.2.2.1 ∈ tw := List.forall_mem_cons.mpr ⟨cw_X11_isStanding, List.forall_mem_cons.mpr ⟨cw_X11_isWithin, List.forall_mem_cons.mpr ⟨cw_X11_joined, List.forall_mem_cons.mpr ⟨cw_X11_law, List.forall_mem_cons.mpr ⟨cw_X11_lawFor, List.forall_mem_cons.mpr ⟨cw_X11_lay, List.forall_mem_cons.mpr ⟨cw_X11_leave, List.forall_mem_cons.mpr ⟨cw_X11_line, List.forall_mem_cons.mpr ⟨cw_X11_lives, List.forall_mem_cons.mpr ⟨cw_X11_makePlan, List.forall_mem_cons.mpr ⟨cw_X11_mark, List.forall_mem_cons.mpr ⟨cw_X11_member, List.forall_mem_cons.mpr ⟨cw_X11_move, List.forall_mem_cons.mpr ⟨cw_X11_name, List.forall_mem_cons.mpr ⟨cw_X11_notice, List.forall_mem_cons.mpr ⟨cw_X11_noticeAt, List.forall_mem_cons.mpr ⟨cw_X11_noticed, List.forall_mem_cons.mpr ⟨cw_X11_of, List.forall_mem_cons.mpr ⟨cw_X11_oneIf, List.forall_mem_cons.mpr ⟨cw_X11_open, List.forall_mem_cons.mpr ⟨cw_X11_parcel, List.forall_mem_cons.mpr ⟨cw_X11_parcels, List.forall_mem_cons.mpr ⟨cw_X11_plan, List.forall_mem_cons.mpr ⟨cw_X11_planned, List.forall_mem_cons.mpr ⟨cw_X11_roll, List.forall_mem_cons.mpr ⟨cw_X11_rolls, List.forall_mem_cons.mpr ⟨cw_X11_rule, List.forall_mem_cons.mpr ⟨cw_X11_says, List.forall_mem_cons.mpr ⟨cw_X11_send, List.forall_mem_cons.mpr ⟨cw_X11_sendAll, List.forall_mem_cons.mpr ⟨cw_X11_sheet, List.forall_mem_cons.mpr ⟨cw_X11_sheetAt, List.forall_mem_cons.mpr ⟨cw_X11_stands, List.forall_mem_cons.mpr ⟨cw_X11_tell, List.forall_mem_cons.mpr ⟨cw_X11_told, List.forall_mem_cons.mpr ⟨cw_X11_trim, List.forall_mem_cons.mpr ⟨cw_X11_wipe, List.forall_mem_cons.mpr ⟨cw_X12_about, List.forall_mem_cons.mpr ⟨cw_X12_adds, List.forall_mem_cons.mpr ⟨cw_X12_and, fun _ h => absurd h List.not_mem_nil⟩⟩⟩⟩⟩⟩⟩⟩⟩⟩⟩⟩⟩⟩⟩⟩⟩⟩⟩⟩⟩⟩⟩⟩⟩⟩⟩⟩⟩⟩⟩⟩⟩⟩⟩⟩⟩⟩⟩⟩
theorem mdl_ok_2 : mdl_2.all ckD = true := by decide +kernel
theorem mcw_3 : ∀ q ∈ mdl_3, Cond.code q.1 q.2.1 q.2.2.1 q.2.2.2.1 ∈ tw := List.forall_mem_cons.mpr ⟨cw_X12_at, List.forall_mem_cons.mpr ⟨cw_X12_back, List.forall_mem_cons.mpr ⟨cw_X12_bestDays, List.forall_mem_cons.mpr ⟨cw_X12_branch, List.forall_mem_cons.mpr ⟨cw_X12_branchOf, List.forall_mem_cons.mpr ⟨cw_X12_byteOf, List.forall_mem_cons.mpr ⟨cw_X12_canBe, List.forall_mem_cons.mpr ⟨cw_X12_check, List.forall_mem_cons.mpr ⟨cw_X12_close, List.forall_mem_cons.mpr ⟨cw_X12_copy, List.forall_mem_cons.mpr ⟨cw_X12_cost, List.forall_mem_cons.mpr ⟨cw_X12_costOf, List.forall_mem_cons.mpr ⟨cw_X12_count, List.forall_mem_cons.mpr ⟨cw_X12_cure, List.forall_mem_cons.mpr ⟨cw_X12_dayWage, List.forall_mem_cons.mpr ⟨cw_X12_days, List.forall_mem_cons.mpr ⟨cw_X12_docked, List.forall_mem_cons.mpr ⟨cw_X12_feed, List.forall_mem_cons.mpr ⟨cw_X12_figuresApart, List.forall_mem_cons.mpr ⟨cw_X12_fundBehind, List.forall_mem_cons.mpr ⟨cw_X12_gives, List.forall_mem_cons.mpr ⟨cw_X12_harm, List.forall_mem_cons.mpr ⟨cw_X12_harmOf, List.forall_mem_cons.mpr ⟨cw_X12_hasEntitled, List.forall_mem_cons.mpr ⟨cw_X12_holds, List.forall_mem_cons.mpr ⟨cw_X12_in, List.forall_mem_cons.mpr ⟨cw_X12_init, List.forall_mem_cons.mpr ⟨cw_X12_isBallot, List.forall_mem_cons.mpr ⟨cw_X12_isBranch, List.forall_mem_cons.mpr ⟨cw_X12_isDigit, List.forall_mem_cons.mpr ⟨cw_X12_isEntitled, List.forall_mem_cons.mpr ⟨cw_X12_isIn, List.forall_mem_cons.mpr ⟨cw_X12_isLetter, List.forall_mem_cons.mpr ⟨cw_X12_isList, List.forall_mem_cons.mpr ⟨cw_X12_isListed, List.forall_mem_cons.mpr ⟨cw_X12_isMember, List.forall_mem_cons.mpr ⟨cw_X12_isOf, List.forall_mem_cons.mpr ⟨cw_X12_isOfKind, List.forall_mem_cons.mpr ⟨cw_X12_isPlan, List.forall_mem_cons.mpr ⟨cw_X12_isSheet, fun _ h => absurd h List.not_mem_nil⟩⟩⟩⟩⟩⟩⟩⟩⟩⟩⟩⟩⟩⟩⟩⟩⟩⟩⟩⟩⟩⟩⟩⟩⟩⟩⟩⟩⟩⟩⟩⟩⟩⟩⟩⟩⟩⟩⟩⟩
theorem mdl_ok_3 : mdl_3.all ckD = true := by decide +kernel
theorem mcw_4 : ∀ q ∈ mdl_4, Cond.code q.1 q.2.1 q.2.2.1 q.2.2.2.1 ∈ tw := List.forall_mem_cons.mpr ⟨cw_X12_isSign, List.forall_mem_cons.mpr ⟨cw_X12_isTime, List.forall_mem_cons.mpr ⟨cw_X12_isVital, List.forall_mem_cons.mpr ⟨cw_X12_isWord, List.forall_mem_cons.mpr ⟨cw_X12_joined, List.forall_mem_cons.mpr ⟨cw_X12_joins, List.forall_mem_cons.mpr ⟨cw_X12_joinsAll, List.forall_mem_cons.mpr ⟨cw_X12_knows, List.forall_mem_cons.mpr ⟨cw_X12_law, List.forall_mem_cons.mpr ⟨cw_X12_lay, List.forall_mem_cons.mpr ⟨cw_X12_leave, List.forall_mem_cons.mpr ⟨cw_X12_line, List.forall_mem_cons.mpr ⟨cw_X12_lives, List.forall_mem_cons.mpr ⟨cw_X12_livesOn, List.forall_mem_cons.mpr ⟨cw_X12_many, List.forall_mem_cons.mpr ⟨cw_X12_mark, List.forall_mem_cons.mpr ⟨cw_X12_member, List.forall_mem_cons.mpr ⟨cw_X12_move, List.forall_mem_cons.mpr ⟨cw_X12_name, List.forall_mem_cons.mpr ⟨cw_X12_nameOf, List.forall_mem_cons.mpr ⟨cw_X12_next, List.forall_mem_cons.mpr ⟨cw_X12_notice, List.forall_mem_cons.mpr ⟨cw_X12_noticed, List.forall_mem_cons.mpr ⟨cw_X12_number, List.forall_mem_cons.mpr ⟨cw_X12_of, List.forall_mem_cons.mpr ⟨cw_X12_ofOn, List.forall_mem_cons.mpr ⟨cw_X12_one, List.forall_mem_cons.mpr ⟨cw_X12_open, List.forall_mem_cons.mpr ⟨cw_X12_or, List.forall_mem_cons.mpr ⟨cw_X12_papers, List.forall_mem_cons.mpr ⟨cw_X12_parcel, List.forall_mem_cons.mpr ⟨cw_X12_parcels, List.forall_mem_cons.mpr ⟨cw_X12_parts, List.forall_mem_cons.mpr ⟨cw_X12_plan, List.forall_mem_cons.mpr ⟨cw_X12_planned, List.forall_mem_cons.mpr ⟨cw_X12_reads, List.forall_mem_cons.mpr ⟨cw_X12_roll, List.forall_mem_cons.mpr ⟨cw_X12_rolls, List.forall_mem_cons.mpr ⟨cw_X12_rule, List.forall_mem_cons.mpr ⟨cw_X12_says, fun _ h => absurd h List.not_mem_nil⟩⟩⟩⟩⟩⟩⟩⟩⟩⟩⟩⟩⟩⟩⟩⟩⟩⟩⟩⟩⟩⟩⟩⟩⟩⟩⟩⟩⟩⟩⟩⟩⟩⟩⟩⟩⟩⟩⟩⟩
theorem mdl_ok_4 : mdl_4.all ckD = true := by decide +kernel
theorem mcw_5 : ∀ q ∈ mdl_5, Cond.code q.1 q.2.1 q.2.2.1 q.2.2.2.1 ∈ tw := List.forall_mem_cons.mpr ⟨cw_X12_saysOn, List.forall_mem_cons.mpr ⟨cw_X12_send, List.forall_mem_cons.mpr ⟨cw_X12_sendAll, List.forall_mem_cons.mpr ⟨cw_X12_sheet, List.forall_mem_cons.mpr ⟨cw_X12_stands, List.forall_mem_cons.mpr ⟨cw_X12_standsOn, List.forall_mem_cons.mpr ⟨cw_X12_sum, List.forall_mem_cons.mpr ⟨cw_X12_takes, List.forall_mem_cons.mpr ⟨cw_X12_tell, List.forall_mem_cons.mpr ⟨cw_X12_term, List.forall_mem_cons.mpr ⟨cw_X12_test, List.forall_mem_cons.mpr ⟨cw_X12_told, List.forall_mem_cons.mpr ⟨cw_X12_trim, List.forall_mem_cons.mpr ⟨cw_X12_wipe, List.forall_mem_cons.mpr ⟨cw_X1_apply, List.forall_mem_cons.mpr ⟨cw_X1_init, List.forall_mem_cons.mpr ⟨cw_X1_isBallotName, List.forall_mem_cons.mpr ⟨cw_X1_isNameHere, List.forall_mem_cons.mpr ⟨cw_X1_levelOf, List.forall_mem_cons.mpr ⟨cw_X1_pop, List.forall_mem_cons.mpr ⟨cw_X1_push, List.forall_mem_cons.mpr ⟨cw_X1_readFrom, List.forall_mem_cons.mpr ⟨cw_X1_readLevel, List.forall_mem_cons.mpr ⟨cw_X1_readPart, List.forall_mem_cons.mpr ⟨cw_X1_readSection, List.forall_mem_cons.mpr ⟨cw_X1_takeClosing, List.forall_mem_cons.mpr ⟨cw_X1_takeOperand, List.forall_mem_cons.mpr ⟨cw_X1_valueOf, List.forall_mem_cons.mpr ⟨cw_X1_work, List.forall_mem_cons.mpr ⟨cw_X1_write, List.forall_mem_cons.mpr ⟨cw_X2_branchOn, List.forall_mem_cons.mpr ⟨cw_X2_dayWage, List.forall_mem_cons.mpr ⟨cw_X2_goTo, List.forall_mem_cons.mpr ⟨cw_X2_hasLeft, List.forall_mem_cons.mpr ⟨cw_X2_init, List.forall_mem_cons.mpr ⟨cw_X2_lastBranch, List.forall_mem_cons.mpr ⟨cw_X3_addOne, List.forall_mem_cons.mpr ⟨cw_X3_clear, List.forall_mem_cons.mpr ⟨cw_X3_init, List.forall_mem_cons.mpr ⟨cw_X3_put, fun _ h => absurd h List.not_mem_nil⟩⟩⟩⟩⟩⟩⟩⟩⟩⟩⟩⟩⟩⟩⟩⟩⟩⟩⟩⟩⟩⟩⟩⟩⟩⟩⟩⟩⟩⟩⟩⟩⟩⟩⟩⟩⟩⟩⟩⟩
theorem mdl_ok_5 : mdl_5.all ckD = true := by decide +kernel
theorem mcw_6 : ∀ q ∈ mdl_6, Cond.code q.1 q.2.1 q.2.2.1 q.2.2.2.1 ∈ tw := List.forall_mem_cons.mpr ⟨cw_X3_valueOf, List.forall_mem_cons.mpr ⟨cw_X4_init, List.forall_mem_cons.mpr ⟨cw_X5_addBranch, List.forall_mem_cons.mpr ⟨cw_X5_begin, List.forall_mem_cons.mpr ⟨cw_X5_gather, List.forall_mem_cons.mpr ⟨cw_X5_init, List.forall_mem_cons.mpr ⟨cw_X5_joinLastTwo, List.forall_mem_cons.mpr ⟨cw_X6_choose, List.forall_mem_cons.mpr ⟨cw_X6_compareRows, List.forall_mem_cons.mpr ⟨cw_X6_init, List.forall_mem_cons.mpr ⟨cw_X6_isTold, List.forall_mem_cons.mpr ⟨cw_X6_keepBetter, List.forall_mem_cons.mpr ⟨cw_X6_make, List.forall_mem_cons.mpr ⟨cw_X6_takeHarms, List.forall_mem_cons.mpr ⟨cw_X7_addLine, List.forall_mem_cons.mpr ⟨cw_X7_addLines, List.forall_mem_cons.mpr ⟨cw_X7_differingFigures, List.forall_mem_cons.mpr ⟨cw_X7_init, List.forall_mem_cons.mpr ⟨cw_X7_isFull, List.forall_mem_cons.mpr ⟨cw_X7_join, List.forall_mem_cons.mpr ⟨cw_X7_joinThoseWith, List.forall_mem_cons.mpr ⟨cw_X7_joinedLinesOf, List.forall_mem_cons.mpr ⟨cw_X7_linesOf, List.forall_mem_cons.mpr ⟨cw_X7_membersWithout, List.forall_mem_cons.mpr ⟨cw_X7_partnerFor, List.forall_mem_cons.mpr ⟨cw_X8_clearTo, List.forall_mem_cons.mpr ⟨cw_X8_hasPlaces, List.forall_mem_cons.mpr ⟨cw_X8_init, List.forall_mem_cons.mpr ⟨cw_X8_isMissing, List.forall_mem_cons.mpr ⟨cw_X9_addFour, List.forall_mem_cons.mpr ⟨cw_X9_byteAt, List.forall_mem_cons.mpr ⟨cw_X9_goOn, List.forall_mem_cons.mpr ⟨cw_X9_init, List.forall_mem_cons.mpr ⟨cw_X9_isAtEnd, List.forall_mem_cons.mpr ⟨cw_X9_isAtWord, List.forall_mem_cons.mpr ⟨cw_X9_isRow, List.forall_mem_cons.mpr ⟨cw_X9_letterAtHand, List.forall_mem_cons.mpr ⟨cw_X9_numberAtHand, List.forall_mem_cons.mpr ⟨cw_X9_rewind, List.forall_mem_cons.mpr ⟨cw_X9_signAtHand, fun _ h => absurd h List.not_mem_nil⟩⟩⟩⟩⟩⟩⟩⟩⟩⟩⟩⟩⟩⟩⟩⟩⟩⟩⟩⟩⟩⟩⟩⟩⟩⟩⟩⟩⟩⟩⟩⟩⟩⟩⟩⟩⟩⟩⟩⟩
theorem mdl_ok_6 : mdl_6.all ckD = true := by decide +kernel
theorem mcw_7 : ∀ q ∈ mdl_7, Cond.code q.1 q.2.1 q.2.2.1 q.2.2.2.1 ∈ tw := List.forall_mem_cons.mpr ⟨cw_X9_sortAt, fun _ h => absurd h List.not_mem_nil⟩
theorem mdl_ok_7 : mdl_7.all ckD = true := by decide +kernel
theorem mcw : ∀ q ∈ mdl, Cond.code q.1 q.2.1 q.2.2.1 q.2.2.2.1 ∈ tw := List.forall_mem_append.mpr ⟨mcw_0, List.forall_mem_append.mpr ⟨mcw_1, List.forall_mem_append.mpr ⟨mcw_2, List.forall_mem_append.mpr ⟨mcw_3, List.forall_mem_append.mpr ⟨mcw_4, List.forall_mem_append.mpr ⟨mcw_5, List.forall_mem_append.mpr ⟨mcw_6, mcw_7⟩⟩⟩⟩⟩⟩⟩
theorem mdl_ok : ∀ q ∈ mdl, ckD q = true := List.forall_mem_append.mpr ⟨fun q h => List.all_eq_true.mp mdl_ok_0 q h, List.forall_mem_append.mpr ⟨fun q h => List.all_eq_true.mp mdl_ok_1 q h, List.forall_mem_append.mpr ⟨fun q h => List.all_eq_true.mp mdl_ok_2 q h, List.forall_mem_append.mpr ⟨fun q h => List.all_eq_true.mp mdl_ok_3 q h, List.forall_mem_append.mpr ⟨fun q h => List.all_eq_true.mp mdl_ok_4 q h, List.forall_mem_append.mpr ⟨fun q h => List.all_eq_true.mp mdl_ok_5 q h, List.forall_mem_append.mpr ⟨fun q h => List.all_eq_true.mp mdl_ok_6 q h, fun q h => List.all_eq_true.mp mdl_ok_7 q h⟩⟩⟩⟩⟩⟩⟩