def tw : List Cond := lw_tbl.filter goodWord
theorem tw_good {ws : List Cond} (h : ∀ w ∈ ws, w ∈ tw) : GoodIn tw ws := fun w hw => ⟨h w hw, good_of_word (List.mem_filter.mp (h w hw)).2⟩
def isNst : Cond → Bool
  | .fieldLinkNest _ _ _ _ _ _ => true
  | .methodLinkNest _ _ _ _ => true
  | _ => false
def nst : List Cond := lw_tbl.filter isNst
def cnl : List String := [RX0, RX1, RX2, RX3, RX4, RX5, RX6, RX7, RX8, RX9, RX10, RX11, RX12, RL, RJ0, RJ1, RJ2, RJ11, RJ6, RJ13, RJ9, RJ10, RJ7, RJ3, "java/lang/Object"]
def cnm (o : Nat) : String := cnl.getD o ""
def lkF : List (Nat × Nat × Nat × Nat × Nat × Nat) := [(11, 12, 11, 0, 0, 323), (11, 21, 11, 1, 0, 324), (11, 27, 11, 2, 0, 325), (11, 34, 11, 4, 0, 327), (11, 41, 11, 5, 0, 328), (11, 50, 11, 6, 0, 329), (11, 54, 11, 7, 0, 330), (11, 60, 11, 9, 0, 332), (11, 66, 11, 10, 0, 333), (11, 73, 11, 12, 0, 335), (11, 80, 11, 13, 0, 336), (11, 84, 11, 14, 0, 337), (11, 92, 10, 1, 1, 111), (11, 119, 10, 3, 1, 114), (11, 124, 10, 4, 1, 119), (11, 150, 2, 4, 1, 426), (11, 156, 2, 0, 1, 418), (11, 159, 2, 1, 1, 420), (11, 162, 2, 2, 1, 422), (11, 165, 2, 3, 1, 424), (11, 190, 7, 3, 1, 144), (11, 196, 7, 4, 1, 146), (11, 212, 11, 3, 0, 326), (11, 232, 0, 4, 1, 610), (11, 245, 0, 3, 1, 608), (11, 267, 0, 1, 1, 604), (11, 270, 0, 2, 1, 606), (11, 273, 6, 1, 1, 270), (11, 280, 5, 4, 1, 181), (11, 284, 5, 0, 1, 173), (11, 287, 5, 1, 1, 175), (11, 290, 5, 2, 1, 177), (11, 293, 5, 3, 1, 179), (11, 296, 9, 1, 1, 201), (11, 305, 9, 2, 1, 203), (11, 308, 11, 8, 0, 331), (11, 312, 1, 3, 1, 227), (11, 335, 11, 11, 0, 334), (11, 345, 4, 3, 1, 1042), (11, 354, 4, 4, 1, 1043), (11, 361, 4, 0, 1, 1037), (11, 364, 4, 1, 1, 1039), (11, 367, 4, 2, 1, 1041), (11, 370, 6, 0, 1, 268), (11, 386, 6, 9, 1, 281), (11, 389, 6, 8, 1, 279), (11, 395, 6, 3, 1, 273), (11, 398, 6, 2, 1, 272), (11, 416, 8, 1, 1, 316), (11, 418, 8, 0, 1, 312), (0, 9, 0, 3, 0, 607), (0, 15, 0, 5, 0, 611), (0, 19, 0, 6, 0, 612), (0, 22, 0, 7, 0, 613), (0, 25, 0, 0, 0, 602), (0, 29, 0, 1, 0, 603), (0, 32, 10, 4, 1, 118), (0, 37, 0, 2, 0, 605), (0, 50, 0, 4, 0, 609), (0, 53, 10, 3, 1, 115), (1, 9, 1, 0, 0, 223), (1, 15, 1, 2, 0, 225), (1, 18, 1, 6, 0, 230), (1, 21, 1, 4, 0, 228), (1, 33, 1, 1, 0, 224), (1, 37, 1, 3, 0, 226), (1, 64, 1, 5, 0, 229), (1, 111, 1, 7, 0, 231), (2, 9, 2, 4, 0, 425), (2, 15, 2, 6, 0, 428), (2, 19, 2, 7, 0, 429), (2, 22, 2, 0, 0, 416), (2, 25, 2, 5, 0, 427), (2, 28, 2, 1, 0, 419), (2, 31, 2, 2, 0, 421), (2, 34, 2, 3, 0, 423), (2, 37, 2, 8, 0, 430), (3, 9, 3, 0, 0, 255), (4, 7, 4, 0, 0, 1036), (4, 13, 4, 1, 0, 1038), (4, 16, 4, 2, 0, 1040), (5, 9, 5, 0, 0, 172), (5, 15, 5, 1, 0, 174), (5, 18, 5, 2, 0, 176), (5, 21, 5, 3, 0, 178), (5, 24, 5, 4, 0, 180), (6, 9, 6, 0, 0, 267), (6, 13, 6, 1, 0, 269), (6, 16, 6, 2, 0, 271), (6, 19, 6, 4, 0, 274), (6, 22, 8, 1, 1, 314), (6, 34, 8, 0, 1, 310), (6, 44, 6, 5, 0, 275), (6, 47, 6, 6, 0, 276), (6, 50, 6, 7, 0, 277), (6, 53, 6, 8, 0, 278), (6, 56, 6, 9, 0, 280), (7, 9, 7, 1, 0, 141), (7, 15, 7, 2, 0, 142), (7, 18, 7, 4, 0, 145), (7, 21, 7, 5, 0, 147), (7, 24, 7, 0, 0, 140), (7, 28, 7, 3, 0, 143), (7, 37, 8, 1, 1, 315), (7, 42, 8, 0, 1, 311), (7, 61, 7, 6, 0, 148), (7, 72, 10, 3, 1, 117), (7, 81, 10, 4, 1, 120), (7, 90, 2, 0, 1, 417), (8, 9, 8, 0, 0, 309), (8, 13, 8, 1, 0, 313), (9, 9, 9, 0, 0, 199), (9, 13, 9, 1, 0, 200), (9, 17, 9, 3, 0, 204), (9, 23, 9, 2, 0, 202), (9, 33, 9, 4, 0, 205), (10, 9, 10, 0, 0, 110), (10, 17, 10, 2, 0, 113), (10, 25, 10, 1, 0, 112), (10, 38, 10, 3, 0, 116), (10, 53, 10, 4, 0, 121), (12, 7, 12, 3, 0, 1214), (12, 13, 12, 5, 0, 1216), (12, 16, 12, 6, 0, 1217), (12, 19, 12, 7, 0, 1218), (12, 22, 12, 8, 0, 1219), (12, 25, 12, 9, 0, 1220), (12, 28, 12, 10, 0, 1221), (12, 31, 12, 11, 0, 1222), (12, 34, 12, 12, 0, 1223), (12, 37, 12, 14, 0, 1225), (12, 40, 12, 15, 0, 1226), (12, 43, 12, 17, 0, 1228), (12, 46, 12, 18, 0, 1229), (12, 49, 12, 19, 0, 1230), (12, 52, 12, 20, 0, 1231), (12, 55, 12, 21, 0, 1232), (12, 58, 12, 22, 0, 1233), (12, 61, 12, 23, 0, 1234), (12, 64, 12, 24, 0, 1235), (12, 67, 12, 28, 0, 1239), (12, 70, 12, 30, 0, 1241), (12, 73, 12, 31, 0, 1242), (12, 76, 12, 32, 0, 1243), (12, 79, 12, 33, 0, 1244), (12, 82, 12, 34, 0, 1245), (12, 85, 12, 35, 0, 1246), (12, 88, 12, 36, 0, 1247), (12, 91, 12, 37, 0, 1248), (12, 95, 12, 38, 0, 1249), (12, 98, 12, 40, 0, 1251), (12, 101, 12, 41, 0, 1252), (12, 104, 12, 42, 0, 1253), (12, 108, 12, 43, 0, 1254), (12, 111, 12, 44, 0, 1255), (12, 115, 12, 45, 0, 1256), (12, 118, 12, 46, 0, 1257), (12, 121, 12, 48, 0, 1259), (12, 124, 12, 49, 0, 1260), (12, 127, 12, 50, 0, 1261), (12, 130, 12, 51, 0, 1262), (12, 133, 12, 61, 0, 1272), (12, 136, 12, 62, 0, 1273), (12, 143, 12, 2, 0, 1213), (12, 150, 12, 4, 0, 1215), (12, 153, 12, 16, 0, 1227), (12, 166, 12, 1, 0, 1212), (12, 182, 12, 13, 0, 1224), (12, 231, 12, 47, 0, 1258), (12, 237, 12, 25, 0, 1236), (12, 243, 12, 52, 0, 1263), (12, 247, 12, 26, 0, 1237), (12, 250, 12, 53, 0, 1264), (12, 253, 12, 55, 0, 1266), (12, 256, 12, 54, 0, 1265), (12, 268, 12, 56, 0, 1267), (12, 284, 12, 60, 0, 1271), (12, 294, 12, 59, 0, 1270), (12, 297, 12, 58, 0, 1269), (12, 309, 12, 57, 0, 1268), (12, 338, 12, 27, 0, 1238), (12, 357, 12, 29, 0, 1240), (12, 390, 12, 39, 0, 1250)]
def lkM : List (Nat × Nat × Nat × Nat × Nat) := [(11, 11, 49, 1, 104), (11, 18, 258, 0, 136), (11, 33, 246, 1, 168), (11, 40, 273, 1, 195), (11, 47, 217, 0, 219), (11, 59, 239, 1, 251), (11, 72, 250, 1, 263), (11, 79, 268, 1, 305), (11, 87, 52, 0, 373), (11, 97, 44, 0, 381), (11, 101, 47, 0, 390), (11, 104, 51, 0, 394), (11, 108, 100, 0, 399), (11, 112, 80, 0, 406), (11, 115, 83, 0, 409), (11, 127, 235, 0, 412), (11, 130, 45, 0, 450), (11, 134, 53, 0, 458), (11, 138, 236, 0, 462), (11, 142, 234, 0, 466), (11, 147, 233, 0, 471), (11, 153, 231, 0, 483), (11, 168, 69, 0, 492), (11, 171, 259, 0, 500), (11, 174, 255, 0, 504), (11, 178, 113, 0, 514), (11, 182, 269, 0, 518), (11, 186, 256, 0, 523), (11, 193, 260, 0, 537), (11, 200, 54, 0, 563), (11, 203, 263, 0, 575), (11, 206, 262, 0, 579), (11, 209, 264, 0, 583), (11, 215, 39, 0, 597), (11, 218, 61, 0, 635), (11, 222, 34, 0, 639), (11, 225, 36, 0, 643), (11, 228, 40, 0, 648), (11, 235, 41, 0, 656), (11, 238, 35, 0, 670), (11, 241, 37, 0, 674), (11, 248, 78, 0, 686), (11, 251, 218, 0, 689), (11, 255, 77, 0, 779), (11, 259, 43, 0, 783), (11, 263, 241, 0, 811), (11, 276, 245, 0, 824), (11, 299, 270, 0, 862), (11, 302, 227, 0, 874), (11, 315, 86, 0, 977), (11, 319, 82, 0, 1007), (11, 322, 79, 0, 1015), (11, 325, 240, 0, 1023), (11, 329, 228, 0, 981), (11, 332, 76, 0, 1028), (11, 338, 242, 0, 1032), (11, 341, 58, 0, 1055), (11, 348, 13, 0, 1060), (11, 357, 97, 0, 1070), (11, 373, 254, 0, 1086), (11, 383, 91, 0, 1104), (11, 392, 56, 0, 1108), (11, 401, 249, 0, 1154), (11, 404, 232, 0, 1166), (11, 413, 266, 0, 1173), (11, 422, 267, 0, 1189), (11, 431, 55, 0, 1200), (11, 434, 57, 0, 1116), (11, 437, 253, 0, 1120), (0, 40, 30, 0, 601), (0, 46, 83, 1, 647), (0, 56, 36, 0, 660), (0, 60, 50, 0, 661), (0, 63, 40, 0, 665), (0, 67, 238, 0, 787), (0, 72, 42, 0, 792), (0, 76, 237, 0, 796), (0, 80, 48, 0, 801), (0, 83, 100, 1, 806), (0, 87, 240, 0, 807), (0, 91, 46, 0, 836), (0, 95, 35, 0, 849), (1, 27, 6, 0, 693), (1, 40, 279, 0, 878), (1, 45, 226, 0, 900), (1, 53, 274, 0, 969), (1, 57, 275, 0, 904), (1, 61, 272, 0, 929), (1, 67, 224, 0, 930), (1, 71, 225, 0, 934), (1, 75, 280, 0, 960), (1, 79, 220, 0, 964), (1, 83, 230, 0, 956), (1, 87, 221, 0, 938), (1, 91, 277, 0, 942), (1, 94, 219, 0, 946), (1, 98, 278, 0, 952), (1, 101, 218, 0, 950), (1, 106, 83, 1, 985), (1, 114, 229, 0, 986), (1, 118, 222, 0, 995), (1, 121, 241, 0, 990), (1, 126, 223, 0, 991), (1, 129, 100, 1, 999), (1, 133, 216, 0, 1000), (3, 13, 30, 0, 791), (3, 19, 78, 1, 800), (5, 28, 33, 0, 828), (5, 34, 32, 0, 832), (5, 38, 244, 0, 837), (5, 41, 243, 0, 841), (5, 45, 247, 0, 850), (5, 48, 38, 0, 845), (6, 38, 83, 1, 1091), (6, 59, 248, 0, 1124), (6, 63, 252, 0, 1128), (6, 67, 29, 0, 1132), (6, 73, 251, 0, 1158), (7, 32, 259, 0, 508), (7, 46, 80, 1, 527), (7, 50, 255, 0, 528), (7, 55, 30, 0, 542), (7, 65, 261, 0, 545), (7, 69, 265, 0, 549), (7, 77, 53, 0, 553), (7, 84, 231, 0, 554), (7, 93, 257, 0, 555), (7, 96, 100, 1, 558), (7, 100, 46, 0, 587), (8, 17, 31, 0, 1177), (9, 20, 272, 0, 882), (9, 26, 271, 0, 886), (9, 30, 281, 0, 890), (9, 36, 100, 1, 895), (9, 42, 276, 0, 896), (9, 46, 78, 1, 894), (9, 49, 9, 0, 908), (9, 54, 2, 0, 909), (10, 21, 83, 1, 376), (10, 30, 47, 0, 398), (10, 34, 51, 0, 805), (10, 41, 53, 0, 571), (10, 46, 231, 0, 573), (10, 50, 46, 0, 567), (10, 56, 100, 1, 574), (10, 60, 234, 0, 1204), (10, 64, 50, 0, 1059), (10, 67, 232, 0, 1112), (13, 9, 75, 0, 96), (13, 12, 148, 0, 1207), (13, 13, 62, 0, 369), (13, 17, 125, 0, 1402), (13, 18, 81, 0, 386), (13, 22, 158, 0, 1411), (13, 23, 93, 0, 402), (13, 27, 178, 0, 1423), (13, 28, 94, 0, 454), (13, 31, 179, 0, 1427), (13, 32, 88, 0, 475), (13, 35, 172, 0, 1440), (13, 36, 99, 0, 479), (13, 39, 186, 0, 1444), (13, 40, 116, 0, 488), (13, 43, 213, 0, 1453), (13, 44, 89, 0, 496), (13, 47, 173, 0, 1457), (13, 48, 106, 0, 510), (13, 51, 198, 0, 1461), (13, 52, 118, 0, 529), (13, 56, 215, 0, 1470), (13, 57, 84, 0, 533), (13, 60, 166, 0, 1474), (13, 61, 107, 0, 559), (13, 64, 199, 0, 1489), (13, 65, 70, 0, 588), (13, 68, 137, 0, 1493), (13, 69, 101, 0, 592), (13, 72, 189, 0, 1497), (13, 73, 110, 0, 631), (13, 76, 203, 0, 1501), (13, 77, 111, 0, 652), (13, 80, 204, 0, 1513), (13, 81, 60, 0, 666), (13, 85, 123, 0, 1525), (13, 86, 64, 0, 678), (13, 89, 130, 0, 1529), (13, 90, 95, 0, 682), (13, 93, 180, 0, 1533), (13, 94, 59, 0, 816), (13, 97, 119, 0, 1548), (13, 98, 103, 0, 820), (13, 101, 193, 0, 1552), (13, 102, 102, 0, 854), (13, 105, 192, 0, 1568), (13, 106, 72, 0, 858), (13, 109, 139, 0, 1572), (13, 110, 117, 0, 866), (13, 113, 214, 0, 1579), (13, 114, 85, 0, 870), (13, 117, 170, 0, 1583), (13, 118, 109, 0, 973), (13, 121, 201, 0, 1650), (13, 122, 114, 0, 1003), (13, 125, 206, 0, 1662), (13, 126, 90, 0, 1011), (13, 129, 174, 0, 1670), (13, 130, 68, 0, 1019), (13, 133, 135, 0, 1678), (13, 134, 96, 0, 1024), (13, 137, 183, 0, 1682), (13, 138, 98, 0, 1066), (13, 141, 184, 0, 1693), (13, 142, 74, 0, 1074), (13, 145, 146, 0, 1697), (13, 146, 73, 0, 1078), (13, 149, 143, 0, 1701), (13, 150, 87, 0, 1082), (13, 153, 171, 0, 1705), (13, 154, 108, 0, 1092), (13, 157, 200, 0, 1709), (13, 158, 104, 0, 1100), (13, 161, 195, 0, 1725), (13, 162, 105, 0, 1138), (13, 165, 196, 0, 1756), (13, 166, 66, 0, 1142), (13, 169, 132, 0, 1713), (13, 170, 115, 0, 1146), (13, 173, 210, 0, 1760), (13, 174, 63, 0, 1150), (13, 177, 129, 0, 1764), (13, 178, 71, 0, 1162), (13, 181, 138, 0, 1768), (13, 182, 112, 0, 1168), (13, 185, 205, 0, 1772), (13, 186, 92, 0, 1180), (13, 189, 177, 0, 1777), (13, 190, 65, 0, 1185), (13, 194, 131, 0, 1782), (13, 195, 67, 0, 1196), (13, 198, 134, 0, 1786), (12, 146, 147, 0, 1406), (12, 158, 150, 0, 1415), (12, 162, 159, 0, 1419), (12, 169, 157, 0, 1431), (12, 172, 126, 0, 1435), (12, 178, 187, 0, 1448), (12, 185, 161, 0, 1465), (12, 189, 173, 0, 1469), (12, 192, 140, 0, 1486), (12, 195, 167, 0, 1482), (12, 199, 168, 0, 1478), (12, 202, 153, 0, 1521), (12, 205, 149, 0, 1505), (12, 208, 191, 0, 1509), (12, 211, 152, 0, 1517), (12, 214, 181, 0, 1537), (12, 217, 163, 0, 1540), (12, 220, 169, 0, 1544), (12, 224, 145, 0, 1560), (12, 227, 120, 0, 1564), (12, 234, 194, 0, 1556), (12, 240, 127, 0, 1576), (12, 259, 122, 0, 1591), (12, 262, 154, 0, 1595), (12, 265, 151, 0, 1598), (12, 271, 9, 0, 1610), (12, 277, 2, 0, 1611), (12, 281, 182, 0, 1587), (12, 287, 209, 0, 1612), (12, 291, 162, 0, 1640), (12, 300, 188, 0, 1636), (12, 303, 190, 0, 1616), (12, 306, 185, 0, 1644), (12, 312, 211, 0, 1632), (12, 315, 208, 0, 1628), (12, 318, 212, 0, 1624), (12, 321, 121, 0, 1620), (12, 324, 165, 0, 1606), (12, 330, 197, 0, 1602), (12, 341, 142, 0, 1658), (12, 344, 202, 0, 1654), (12, 348, 207, 0, 1666), (12, 351, 175, 0, 1674), (12, 354, 155, 0, 1686), (12, 360, 156, 0, 1690), (12, 363, 136, 0, 1721), (12, 366, 133, 0, 1717), (12, 369, 164, 0, 1737), (12, 372, 144, 0, 1741), (12, 375, 176, 0, 1745), (12, 378, 128, 0, 1748), (12, 381, 141, 0, 1752), (12, 384, 160, 0, 1729), (12, 387, 124, 0, 1733), (14, 335, 5, 0, 711), (14, 492, 8, 0, 701), (14, 495, 15, 0, 913), (14, 498, 18, 0, 922), (14, 505, 9, 0, 707), (14, 633, 7, 0, 697), (14, 637, 17, 0, 715), (14, 640, 25, 0, 730), (14, 1059, 28, 0, 919), (14, 1062, 27, 0, 750), (15, 9, 4, 0, 916), (15, 88, 14, 0, 718), (15, 95, 16, 0, 727), (16, 48, 26, 0, 742), (16, 67, 20, 0, 925), (16, 71, 21, 0, 756), (16, 96, 19, 0, 739), (16, 157, 10, 0, 771), (16, 161, 12, 0, 775), (16, 164, 11, 0, 768), (16, 228, 23, 0, 736), (16, 232, 24, 0, 765), (16, 241, 3, 0, 745), (16, 244, 22, 0, 753), (16, 414, 4, 0, 928)]
def lkI : List (Nat × Nat × Int32 × Nat) := [(11, 91, -1000000001, 379), (11, 96, -1000000003, 380), (11, 146, -1000000002, 470), (11, 185, -1000000011, 522), (11, 283, -1000000005, 495), (11, 412, -1000000014, 1172), (11, 417, -1000000013, 1184), (2, 40, -1000000005, 487), (7, 36, -1000000003, 509), (7, 54, -1000000005, 541), (10, 29, -1000000003, 385), (10, 45, -1000000005, 572), (12, 94, 1000000, 1211), (12, 156, -1000000001, 1409), (12, 157, -1000000003, 1410), (12, 176, -1000000002, 1439), (12, 177, -1000000005, 1452), (12, 188, -1000000011, 1468), (12, 393, -1000000014, 1776), (12, 394, -1000000013, 1781), (17, 76, 56320, 778), (17, 110, 55232, 774), (18, 265, 1431655765, 1135), (18, 266, 858993459, 1136), (18, 267, 252645135, 1137), (16, 227, 65536, 735)]
def lkJ : List (Nat × Nat × Int64 × Nat) := [(19, 314, 6148914691236517205, 1063), (19, 316, 3689348814741910323, 1064), (19, 318, 1085102592571150095, 1065)]
def lkC : List (Nat × Nat × Nat × Nat) := [(11, 9, 10, 102), (11, 16, 7, 134), (11, 25, 0, 164), (11, 31, 5, 166), (11, 38, 9, 193), (11, 45, 1, 217), (11, 57, 3, 249), (11, 64, 4, 259), (11, 70, 6, 261), (11, 77, 8, 303), (11, 122, 2, 410), (10, 15, 2, 108), (13, 7, 11, 94), (13, 10, 12, 1205)]
def lkS : List (Nat × Nat × Nat) := [(1, 25, 0), (1, 43, 2), (1, 49, 3), (1, 51, 4), (1, 104, 1), (12, 328, 5), (12, 334, 6), (12, 336, 7)]
def lkG : List (Nat × Nat × Nat × Nat × Nat) := [(11, 377, 2, 1, 1096), (11, 380, 3, 1, 1098), (14, 38, 0, 0, 705), (14, 1053, 1, 0, 748)]
def lkV : List (Nat × Nat × Nat × Nat) := [(14, 9, 0, 1791), (14, 15, 1, 1790)]
/-- a method: its name, code, locals, answer; places of its words: code, instance or static, selects, initialized; arguments; 0 instance, 1 static, 2 constructor -/
abbrev MD : Type := MethodName × ByteArray × Nat × Option FieldType × (Nat × Nat × Nat × Nat) × Nat × Nat
def mdl_0 : List MD := [(yJ0_charAt_5068e, cJ0_charAt_5068e, 2, (some .char), (912, 910, 911, 84), 1, 0), (yJ0_checkBoundsBeginEnd_23922, cJ0_checkBoundsBeginEnd_23922, 3, none, (747, 746, 0, 84), 3, 1), (yJ0_checkIndex_df160, cJ0_checkIndex_df160, 2, none, (918, 917, 0, 84), 2, 1), (yJ0_coder_7d493, cJ0_coder_7d493, 1, (some .byte), (714, 712, 713, 84), 0, 0), (yJ0_indexOf_0f7a4, cJ0_indexOf_0f7a4, 2, (some .int), (696, 694, 695, 84), 1, 0), (yJ0_indexOf_7cf53, cJ0_indexOf_7cf53, 3, (some .int), (700, 698, 699, 84), 2, 0), (yJ0_isLatin1_aae02, cJ0_isLatin1_aae02, 1, (some .boolean), (704, 702, 703, 84), 0, 0), (yJ0_length_8abf5, cJ0_length_8abf5, 1, (some .int), (710, 708, 709, 84), 0, 0), (yJ11_highSurrogate_5068e, cJ11_highSurrogate_5068e, 1, (some .char), (773, 772, 0, 89), 1, 1), (yJ11_isValidCodePoint_9a6ad, cJ11_isValidCodePoint_9a6ad, 2, (some .boolean), (770, 769, 0, 89), 1, 1), (yJ11_lowSurrogate_5068e, cJ11_lowSurrogate_5068e, 1, (some .char), (777, 776, 0, 89), 1, 1), (yJ13_bitCount_95d88, cJ13_bitCount_95d88, 2, (some .int), (1062, 1061, 0, 91), 1, 1), (yJ1_canEncode_9a6ad, cJ1_canEncode_9a6ad, 1, (some .boolean), (720, 719, 0, 85), 1, 1), (yJ1_charAt_3b067, cJ1_charAt_3b067, 2, (some .char), (915, 914, 0, 85), 2, 1), (yJ1_indexOfChar_4cfef, cJ1_indexOfChar_4cfef, 6, (some .int), (729, 728, 0, 85), 4, 1), (yJ1_indexOf_4cfef, cJ1_indexOf_4cfef, 4, (some .int), (717, 716, 0, 85), 4, 1), (yJ2_charAt_3b067, cJ2_charAt_3b067, 2, (some .char), (924, 923, 0, 87), 2, 1), (yJ2_checkBoundsBeginEnd_d044e, cJ2_checkBoundsBeginEnd_d044e, 3, none, (741, 740, 0, 87), 3, 1), (yJ2_checkIndex_2214a, cJ2_checkIndex_2214a, 2, none, (927, 926, 0, 87), 2, 1), (yJ2_getChar_3b067, cJ2_getChar_3b067, 2, (some .char), (758, 757, 0, 87), 2, 1), (yJ2_indexOfCharUnsafe_4cfef, cJ2_indexOfCharUnsafe_4cfef, 5, (some .int), (755, 754, 0, 87), 4, 1), (yJ2_indexOfChar_4cfef, cJ2_indexOfChar_4cfef, 4, (some .int), (738, 737, 0, 87), 4, 1), (yJ2_indexOfSupplementary_4cfef, cJ2_indexOfSupplementary_4cfef, 7, (some .int), (767, 766, 0, 87), 4, 1), (yJ2_indexOf_4cfef, cJ2_indexOf_4cfef, 4, (some .int), (732, 731, 0, 87), 4, 1), (yJ2_length_9d52b, cJ2_length_9d52b, 1, (some .int), (744, 743, 0, 87), 1, 1), (yJ3_checkFromToIndex_8c36e, cJ3_checkFromToIndex_8c36e, 4, (some .int), (752, 751, 0, 88), 4, 1), (yJ3_checkIndex_8e157, cJ3_checkIndex_8e157, 3, (some .int), (921, 920, 0, 88), 3, 1), (yJ6_bitCount_0f7a4, cJ6_bitCount_0f7a4, 1, (some .int), (1134, 1133, 0, 92), 1, 1), (yJ7_fill_53178, cJ7_fill_53178, 4, none, (544, 543, 0, 82), 2, 1), (yJ7_fill_fb410, cJ7_fill_fb410, 4, none, (1179, 1178, 0, 82), 2, 1), (yX0_entitledOf, cX0_entitledOf, 4, (some .int), (835, 833, 834, 83), 1, 0), (yX0_hasBranch, cX0_hasBranch, 2, (some .boolean), (831, 829, 830, 83), 1, 0), (yX0_hasClosed, cX0_hasClosed, 1, (some .boolean), (642, 640, 641, 83), 0, 0), (yX0_hasHeard, cX0_hasHeard, 2, (some .boolean), (673, 671, 672, 83), 1, 0), (yX0_hasSent, cX0_hasSent, 2, (some .boolean), (646, 644, 645, 83), 1, 0), (yX0_hear, cX0_hear, 3, none, (677, 675, 676, 83), 2, 0), (yX0_heardOf, cX0_heardOf, 5, (some .int), (848, 846, 847, 83), 2, 0), (yX0_init, cX0_init, 3, none, (599, 598, 0, 83), 2, 2), (yX0_post, cX0_post, 2, none, (651, 649, 650, 83), 1, 0), (yX0_postToMissed, cX0_postToMissed, 3, (some .int), (659, 657, 658, 83), 0, 0)]
def mdl_1 : List MD := [(yX0_tellEntitled, cX0_tellEntitled, 4, none, (795, 794, 5, 83), 3, 0), (yX0_tellNames, cX0_tellNames, 4, none, (786, 784, 785, 83), 2, 0), (yX10_addBranch, cX10_addBranch, 2, (some .int), (384, 382, 383, 72), 1, 0), (yX10_addMember, cX10_addMember, 2, (some .int), (453, 451, 452, 72), 1, 0), (yX10_branchOn, cX10_branchOn, 4, (some .int), (570, 568, 569, 72), 2, 0), (yX10_hasBranch, cX10_hasBranch, 2, (some .boolean), (393, 391, 392, 72), 1, 0), (yX10_hasVital, cX10_hasVital, 3, (some .boolean), (804, 802, 803, 72), 1, 0), (yX10_init, cX10_init, 1, none, (106, 105, 0, 72), 0, 2), (yX10_isAmong, cX10_isAmong, 5, (some .boolean), (664, 662, 663, 72), 3, 0), (yX10_isBranchOf, cX10_isBranchOf, 4, (some .boolean), (397, 395, 396, 72), 2, 0), (yX10_isKind, cX10_isKind, 1, (some .boolean), (375, 374, 0, 72), 1, 1), (yX10_memberAt, cX10_memberAt, 2, (some (.object "StrikeBallots$Member")), (461, 459, 460, 72), 1, 0), (yX10_sizeOf, cX10_sizeOf, 4, (some .int), (566, 564, 565, 72), 1, 0), (yX10_stayers, cX10_stayers, 4, (some .int), (1203, 1201, 1202, 72), 0, 0), (yX10_strikePay, cX10_strikePay, 6, (some .int), (1111, 1109, 1110, 72), 2, 0), (yX10_strikesVital, cX10_strikesVital, 3, (some .boolean), (1119, 1117, 1118, 72), 1, 0), (yX10_wrongIn, cX10_wrongIn, 7, (some .int), (1058, 1056, 1057, 72), 2, 0), (yX11_about, cX11_about, 4, (some .int), (819, 817, 818, 71), 2, 0), (yX11_back, cX11_back, 5, (some .int), (669, 667, 668, 71), 3, 0), (yX11_ballotAt, cX11_ballotAt, 2, (some (.object "StrikeBallots$Ballot")), (638, 637, 3, 71), 1, 0), (yX11_branch, cX11_branch, 2, (some .int), (372, 370, 371, 71), 1, 0), (yX11_check, cX11_check, 4, (some .int), (1153, 1151, 1152, 71), 2, 0), (yX11_close, cX11_close, 3, (some .int), (681, 679, 680, 71), 1, 0), (yX11_copy, cX11_copy, 8, (some .int), (1188, 1186, 1187, 71), 5, 0), (yX11_cost, cX11_cost, 3, (some .int), (1145, 1143, 1144, 71), 1, 0), (yX11_count, cX11_count, 2, (some .int), (1199, 1197, 1198, 71), 1, 0), (yX11_cure, cX11_cure, 6, (some .int), (1022, 1020, 1021, 71), 1, 0), (yX11_dayOrNone, cX11_dayOrNone, 1, (some .int), (494, 493, 0, 71), 1, 1), (yX11_days, cX11_days, 2, (some .int), (591, 589, 590, 71), 1, 0), (yX11_docked, cX11_docked, 4, (some .int), (1165, 1163, 1164, 71), 2, 0), (yX11_feed, cX11_feed, 4, (some .int), (861, 859, 860, 71), 3, 0), (yX11_harm, cX11_harm, 4, (some .int), (1081, 1079, 1080, 71), 2, 0), (yX11_holds, cX11_holds, 4, (some .int), (1077, 1075, 1076, 71), 1, 0), (yX11_init, cX11_init, 1, none, (98, 97, 0, 71), 0, 2), (yX11_isHalfList, cX11_isHalfList, 1, (some .boolean), (1030, 1029, 0, 71), 1, 1), (yX11_isKnownDay, cX11_isKnownDay, 3, (some .boolean), (782, 781, 4, 71), 2, 0), (yX11_isLetter, cX11_isLetter, 1, (some .boolean), (688, 687, 0, 71), 1, 1), (yX11_isLiving, cX11_isLiving, 4, (some .boolean), (1018, 1017, 22, 71), 2, 0), (yX11_isMark, cX11_isMark, 1, (some .boolean), (408, 407, 0, 71), 1, 1), (yX11_isOf, cX11_isOf, 3, (some .int), (389, 387, 388, 71), 2, 0)]
def mdl_2 : List MD := [(yX11_isStanding, cX11_isStanding, 3, (some .boolean), (1010, 1009, 21, 71), 2, 0), (yX11_isWithin, cX11_isWithin, 3, (some .boolean), (378, 377, 0, 71), 3, 1), (yX11_joined, cX11_joined, 2, (some .int), (536, 534, 535, 71), 1, 0), (yX11_law, cX11_law, 3, (some .int), (873, 871, 872, 71), 0, 0), (yX11_lawFor, cX11_lawFor, 4, (some .int), (980, 979, 17, 71), 3, 0), (yX11_lay, cX11_lay, 3, (some .int), (1085, 1083, 1084, 71), 1, 0), (yX11_leave, cX11_leave, 3, (some .int), (478, 476, 477, 71), 1, 0), (yX11_line, cX11_line, 3, (some .int), (499, 497, 498, 71), 2, 0), (yX11_lives, cX11_lives, 4, (some .int), (1014, 1012, 1013, 71), 2, 0), (yX11_makePlan, cX11_makePlan, 6, (some .boolean), (1107, 1106, 24, 71), 2, 0), (yX11_mark, cX11_mark, 6, (some .int), (1183, 1181, 1182, 71), 3, 0), (yX11_member, cX11_member, 5, (some .int), (405, 403, 404, 71), 4, 0), (yX11_move, cX11_move, 5, (some .int), (457, 455, 456, 71), 2, 0), (yX11_name, cX11_name, 5, (some .int), (685, 683, 684, 71), 3, 0), (yX11_notice, cX11_notice, 9, (some .int), (1027, 1025, 1026, 71), 4, 0), (yX11_noticeAt, cX11_noticeAt, 2, (some (.object "StrikeBallots$Notice")), (1073, 1072, 23, 71), 1, 0), (yX11_noticed, cX11_noticed, 4, (some .int), (1069, 1067, 1068, 71), 2, 0), (yX11_of, cX11_of, 4, (some .int), (482, 480, 481, 71), 2, 0), (yX11_oneIf, cX11_oneIf, 1, (some .int), (401, 400, 0, 71), 1, 1), (yX11_open, cX11_open, 2, (some .int), (595, 593, 594, 71), 1, 0), (yX11_parcel, cX11_parcel, 5, (some .int), (857, 855, 856, 71), 3, 0), (yX11_parcels, cX11_parcels, 3, (some .int), (823, 821, 822, 71), 1, 0), (yX11_plan, cX11_plan, 3, (some .int), (1103, 1101, 1102, 71), 2, 0), (yX11_planned, cX11_planned, 3, (some .int), (1141, 1139, 1140, 71), 2, 0), (yX11_roll, cX11_roll, 4, (some .int), (513, 511, 512, 71), 2, 0), (yX11_rolls, cX11_rolls, 3, (some .int), (562, 560, 561, 71), 2, 0), (yX11_rule, cX11_rule, 4, (some .int), (1095, 1093, 1094, 71), 2, 0), (yX11_says, cX11_says, 5, (some .int), (976, 974, 975, 71), 3, 0), (yX11_send, cX11_send, 4, (some .int), (634, 632, 633, 71), 2, 0), (yX11_sendAll, cX11_sendAll, 3, (some .int), (655, 653, 654, 71), 1, 0), (yX11_sheet, cX11_sheet, 4, (some .int), (1171, 1169, 1170, 71), 2, 0), (yX11_sheetAt, cX11_sheetAt, 2, (some (.object "StrikeBallots$Sheet")), (517, 516, 0, 71), 1, 0), (yX11_stands, cX11_stands, 4, (some .int), (1006, 1004, 1005, 71), 2, 0), (yX11_tell, cX11_tell, 2, (some .int), (1149, 1147, 1148, 71), 1, 0), (yX11_told, cX11_told, 4, (some .int), (491, 489, 490, 71), 2, 0), (yX11_trim, cX11_trim, 2, (some .int), (869, 867, 868, 71), 1, 0), (yX11_wipe, cX11_wipe, 2, (some .int), (532, 530, 531, 71), 0, 0), (yX12_about, cX12_about, 3, (some .int), (1551, 1549, 1550, 80), 2, 0), (yX12_adds, cX12_adds, 6, none, (1567, 1566, 43, 80), 3, 0), (yX12_and, cX12_and, 3, (some .int), (1623, 1622, 50, 80), 0, 0)]
def mdl_3 : List MD := [(yX12_at, cX12_at, 2, (some .int), (1594, 1593, 45, 80), 1, 0), (yX12_back, cX12_back, 5, (some .int), (1528, 1526, 1527, 80), 3, 0), (yX12_bestDays, cX12_bestDays, 8, (some .int), (1736, 1735, 65, 80), 2, 0), (yX12_branch, cX12_branch, 2, (some .int), (1405, 1403, 1404, 80), 1, 0), (yX12_branchOf, cX12_branchOf, 2, (some .int), (1438, 1437, 31, 80), 1, 0), (yX12_byteOf, cX12_byteOf, 2, (some .int), (1578, 1577, 0, 80), 2, 1), (yX12_canBe, cX12_canBe, 6, (some .boolean), (1751, 1750, 68, 80), 3, 0), (yX12_check, cX12_check, 8, (some .int), (1767, 1765, 1766, 80), 2, 0), (yX12_close, cX12_close, 2, (some .int), (1532, 1530, 1531, 80), 1, 0), (yX12_copy, cX12_copy, 7, (some .int), (1785, 1783, 1784, 80), 5, 0), (yX12_cost, cX12_cost, 2, (some .int), (1716, 1714, 1715, 80), 1, 0), (yX12_costOf, cX12_costOf, 4, (some .int), (1720, 1719, 62, 80), 1, 0), (yX12_count, cX12_count, 4, (some .int), (1789, 1787, 1788, 80), 1, 0), (yX12_cure, cX12_cure, 4, (some .int), (1681, 1679, 1680, 80), 1, 0), (yX12_dayWage, cX12_dayWage, 2, (some .int), (1724, 1723, 63, 80), 1, 0), (yX12_days, cX12_days, 2, (some .int), (1496, 1494, 1495, 80), 1, 0), (yX12_docked, cX12_docked, 4, (some .int), (1771, 1769, 1770, 80), 2, 0), (yX12_feed, cX12_feed, 5, (some .int), (1575, 1573, 1574, 80), 3, 0), (yX12_figuresApart, cX12_figuresApart, 6, (some .int), (1488, 1487, 0, 80), 2, 1), (yX12_fundBehind, cX12_fundBehind, 6, (some .int), (1755, 1754, 69, 80), 3, 0), (yX12_gives, cX12_gives, 2, (some .int), (1661, 1660, 58, 80), 1, 0), (yX12_harm, cX12_harm, 4, (some .int), (1704, 1702, 1703, 80), 2, 0), (yX12_harmOf, cX12_harmOf, 4, (some .int), (1744, 1743, 67, 80), 1, 0), (yX12_hasEntitled, cX12_hasEntitled, 5, (some .boolean), (1563, 1562, 42, 80), 2, 0), (yX12_holds, cX12_holds, 3, (some .int), (1700, 1698, 1699, 80), 1, 0), (yX12_in, cX12_in, 3, (some .boolean), (1408, 1407, 0, 80), 3, 1), (yX12_init, cX12_init, 1, none, (1209, 1208, 0, 80), 0, 2), (yX12_isBallot, cX12_isBallot, 2, (some .boolean), (1508, 1507, 35, 80), 1, 0), (yX12_isBranch, cX12_isBranch, 2, (some .boolean), (1418, 1417, 28, 80), 1, 0), (yX12_isDigit, cX12_isDigit, 1, (some .boolean), (1600, 1599, 0, 80), 1, 1), (yX12_isEntitled, cX12_isEntitled, 3, (some .boolean), (1520, 1519, 37, 80), 2, 0), (yX12_isIn, cX12_isIn, 5, (some .boolean), (1524, 1523, 38, 80), 3, 0), (yX12_isLetter, cX12_isLetter, 1, (some .boolean), (1597, 1596, 0, 80), 1, 1), (yX12_isList, cX12_isList, 5, (some .boolean), (1689, 1688, 61, 80), 2, 0), (yX12_isListed, cX12_isListed, 3, (some .boolean), (1692, 1691, 0, 80), 3, 1), (yX12_isMember, cX12_isMember, 2, (some .boolean), (1434, 1433, 30, 80), 1, 0), (yX12_isOf, cX12_isOf, 3, (some .int), (1414, 1412, 1413, 80), 2, 0), (yX12_isOfKind, cX12_isOfKind, 3, (some .boolean), (1422, 1421, 29, 80), 2, 0), (yX12_isPlan, cX12_isPlan, 3, (some .boolean), (1732, 1731, 64, 80), 2, 0), (yX12_isSheet, cX12_isSheet, 1, (some .boolean), (1467, 1466, 0, 80), 1, 1)]
def mdl_4 : List MD := [(yX12_isSign, cX12_isSign, 2, (some .boolean), (1643, 1642, 55, 80), 1, 0), (yX12_isTime, cX12_isTime, 3, (some .boolean), (1543, 1542, 39, 80), 2, 0), (yX12_isVital, cX12_isVital, 4, (some .boolean), (1740, 1739, 66, 80), 1, 0), (yX12_isWord, cX12_isWord, 4, (some .boolean), (1609, 1608, 47, 80), 1, 0), (yX12_joined, cX12_joined, 2, (some .int), (1477, 1475, 1476, 80), 1, 0), (yX12_joins, cX12_joins, 4, none, (1485, 1484, 34, 80), 1, 0), (yX12_joinsAll, cX12_joinsAll, 2, none, (1481, 1480, 33, 80), 0, 0), (yX12_knows, cX12_knows, 7, none, (1547, 1546, 40, 80), 2, 0), (yX12_law, cX12_law, 3, (some .int), (1586, 1584, 1585, 80), 0, 0), (yX12_lay, cX12_lay, 5, (some .int), (1708, 1706, 1707, 80), 1, 0), (yX12_leave, cX12_leave, 2, (some .int), (1443, 1441, 1442, 80), 1, 0), (yX12_line, cX12_line, 3, (some .int), (1460, 1458, 1459, 80), 2, 0), (yX12_lives, cX12_lives, 3, (some .int), (1673, 1671, 1672, 80), 2, 0), (yX12_livesOn, cX12_livesOn, 3, (some .boolean), (1677, 1676, 60, 80), 2, 0), (yX12_many, cX12_many, 3, (some .int), (1747, 1746, 0, 80), 1, 1), (yX12_mark, cX12_mark, 5, (some .int), (1780, 1778, 1779, 80), 3, 0), (yX12_member, cX12_member, 5, (some .int), (1426, 1424, 1425, 80), 4, 0), (yX12_move, cX12_move, 4, (some .int), (1430, 1428, 1429, 80), 2, 0), (yX12_name, cX12_name, 4, (some .int), (1536, 1534, 1535, 80), 3, 0), (yX12_nameOf, cX12_nameOf, 1, (some .int), (1539, 1538, 0, 80), 1, 1), (yX12_next, cX12_next, 5, none, (1590, 1589, 44, 80), 0, 0), (yX12_notice, cX12_notice, 9, (some .int), (1685, 1683, 1684, 80), 4, 0), (yX12_noticed, cX12_noticed, 3, (some .int), (1696, 1694, 1695, 80), 2, 0), (yX12_number, cX12_number, 3, (some .int), (1647, 1646, 56, 80), 0, 0), (yX12_of, cX12_of, 3, (some .int), (1447, 1445, 1446, 80), 2, 0), (yX12_ofOn, cX12_ofOn, 5, (some .int), (1451, 1450, 32, 80), 2, 0), (yX12_one, cX12_one, 3, (some .int), (1639, 1638, 54, 80), 0, 0), (yX12_open, cX12_open, 3, (some .int), (1500, 1498, 1499, 80), 1, 0), (yX12_or, cX12_or, 3, (some .int), (1619, 1618, 49, 80), 0, 0), (yX12_papers, cX12_papers, 4, (some .int), (1512, 1511, 36, 80), 1, 0), (yX12_parcel, cX12_parcel, 4, (some .int), (1571, 1569, 1570, 80), 3, 0), (yX12_parcels, cX12_parcels, 2, (some .int), (1555, 1553, 1554, 80), 1, 0), (yX12_parts, cX12_parts, 4, none, (1559, 1558, 41, 80), 1, 0), (yX12_plan, cX12_plan, 3, (some .int), (1728, 1726, 1727, 80), 2, 0), (yX12_planned, cX12_planned, 3, (some .int), (1759, 1757, 1758, 80), 2, 0), (yX12_reads, cX12_reads, 4, none, (1605, 1604, 46, 80), 2, 0), (yX12_roll, cX12_roll, 6, (some .int), (1464, 1462, 1463, 80), 2, 0), (yX12_rolls, cX12_rolls, 6, (some .int), (1492, 1490, 1491, 80), 2, 0), (yX12_rule, cX12_rule, 4, (some .int), (1712, 1710, 1711, 80), 2, 0), (yX12_says, cX12_says, 4, (some .int), (1653, 1651, 1652, 80), 3, 0)]
def mdl_5 : List MD := [(yX12_saysOn, cX12_saysOn, 4, (some .int), (1657, 1656, 57, 80), 3, 0), (yX12_send, cX12_send, 3, (some .int), (1504, 1502, 1503, 80), 2, 0), (yX12_sendAll, cX12_sendAll, 4, (some .int), (1516, 1514, 1515, 80), 1, 0), (yX12_sheet, cX12_sheet, 4, (some .int), (1775, 1773, 1774, 80), 2, 0), (yX12_stands, cX12_stands, 3, (some .int), (1665, 1663, 1664, 80), 2, 0), (yX12_standsOn, cX12_standsOn, 3, (some .boolean), (1669, 1668, 59, 80), 2, 0), (yX12_sum, cX12_sum, 4, (some .int), (1631, 1630, 52, 80), 0, 0), (yX12_takes, cX12_takes, 2, none, (1615, 1614, 48, 80), 1, 0), (yX12_tell, cX12_tell, 2, (some .int), (1763, 1761, 1762, 80), 1, 0), (yX12_term, cX12_term, 4, (some .int), (1635, 1634, 53, 80), 0, 0), (yX12_test, cX12_test, 5, (some .int), (1627, 1626, 51, 80), 0, 0), (yX12_told, cX12_told, 3, (some .int), (1456, 1454, 1455, 80), 2, 0), (yX12_trim, cX12_trim, 2, (some .int), (1582, 1580, 1581, 80), 1, 0), (yX12_wipe, cX12_wipe, 2, (some .int), (1473, 1471, 1472, 80), 0, 0), (yX1_apply, cX1_apply, 3, (some .int), (1002, 1001, 0, 76), 3, 1), (yX1_init, cX1_init, 2, none, (221, 220, 0, 76), 1, 2), (yX1_isBallotName, cX1_isBallotName, 1, (some .boolean), (691, 690, 0, 76), 1, 1), (yX1_isNameHere, cX1_isNameHere, 2, (some .boolean), (949, 948, 15, 76), 1, 0), (yX1_levelOf, cX1_levelOf, 1, (some .int), (966, 965, 0, 76), 1, 1), (yX1_operandAtHand, cX1_operandAtHand, 2, (some .int), (941, 940, 14, 76), 0, 0), (yX1_pop, cX1_pop, 1, (some .int), (998, 997, 20, 76), 0, 0), (yX1_push, cX1_push, 2, none, (994, 993, 19, 76), 1, 0), (yX1_readLevel, cX1_readLevel, 8, (some .boolean), (933, 932, 12, 76), 3, 0), (yX1_readPart, cX1_readPart, 6, (some .boolean), (937, 936, 13, 76), 2, 0), (yX1_readSection, cX1_readSection, 4, (some .boolean), (903, 902, 11, 76), 2, 0), (yX1_readTape, cX1_readTape, 1, (some .boolean), (877, 875, 876, 76), 0, 0), (yX1_valueOf, cX1_valueOf, 5, (some .int), (984, 982, 983, 76), 2, 0), (yX1_work, cX1_work, 5, none, (989, 988, 18, 76), 2, 0), (yX1_write, cX1_write, 2, none, (959, 958, 16, 76), 1, 0), (yX2_branchOn, cX2_branchOn, 4, (some .int), (486, 484, 485, 81), 1, 0), (yX2_dayWage, cX2_dayWage, 1, (some .int), (1115, 1113, 1114, 81), 0, 0), (yX2_goTo, cX2_goTo, 3, (some .boolean), (474, 472, 473, 81), 2, 0), (yX2_hasLeft, cX2_hasLeft, 1, (some .boolean), (469, 467, 468, 81), 0, 0), (yX2_init, cX2_init, 6, none, (414, 413, 0, 81), 5, 2), (yX2_lastBranch, cX2_lastBranch, 1, (some .int), (465, 463, 464, 81), 0, 0), (yX3_addOne, cX3_addOne, 2, none, (799, 797, 798, 77), 1, 0), (yX3_clear, cX3_clear, 1, none, (790, 788, 789, 77), 0, 0), (yX3_init, cX3_init, 1, none, (253, 252, 0, 77), 0, 2), (yX3_put, cX3_put, 3, none, (810, 808, 809, 77), 2, 0), (yX3_valueOf, cX3_valueOf, 2, (some .int), (814, 812, 813, 77), 1, 0)]
def mdl_6 : List MD := [(yX4_init, cX4_init, 4, none, (1034, 1033, 0, 90), 3, 2), (yX5_addBranch, cX5_addBranch, 6, none, (844, 843, 7, 74), 2, 0), (yX5_begin, cX5_begin, 1, none, (840, 839, 6, 74), 0, 0), (yX5_gather, cX5_gather, 4, none, (827, 825, 826, 74), 2, 0), (yX5_init, cX5_init, 1, none, (170, 169, 0, 74), 0, 2), (yX5_joinLastTwo, cX5_joinLastTwo, 2, none, (853, 852, 8, 74), 0, 0), (yX6_choose, cX6_choose, 7, none, (1127, 1126, 25, 78), 5, 0), (yX6_compareRows, cX6_compareRows, 5, (some .int), (1157, 1155, 1156, 78), 1, 0), (yX6_init, cX6_init, 1, none, (265, 264, 0, 78), 0, 2), (yX6_isTold, cX6_isTold, 4, (some .boolean), (1161, 1160, 27, 78), 3, 0), (yX6_keepBetter, cX6_keepBetter, 5, none, (1131, 1130, 26, 78), 2, 0), (yX6_make, cX6_make, 5, none, (1123, 1121, 1122, 78), 3, 0), (yX6_takeHarms, cX6_takeHarms, 5, (some .int), (1089, 1087, 1088, 78), 1, 0), (yX7_addLine, cX7_addLine, 3, (some .int), (507, 505, 506, 73), 2, 0), (yX7_addLines, cX7_addLines, 5, (some .int), (526, 524, 525, 73), 2, 0), (yX7_differingFigures, cX7_differingFigures, 4, (some .int), (557, 556, 0, 73), 2, 1), (yX7_init, cX7_init, 2, none, (138, 137, 0, 73), 1, 2), (yX7_isFull, cX7_isFull, 1, (some .boolean), (503, 501, 502, 73), 0, 0), (yX7_join, cX7_join, 1, none, (540, 538, 539, 73), 0, 0), (yX7_joinThoseWith, cX7_joinThoseWith, 4, none, (548, 547, 1, 73), 1, 0), (yX7_joinedLinesOf, cX7_joinedLinesOf, 6, (some .int), (582, 580, 581, 73), 2, 0), (yX7_linesOf, cX7_linesOf, 4, (some .int), (578, 576, 577, 73), 1, 0), (yX7_membersWithout, cX7_membersWithout, 5, (some .int), (586, 584, 585, 73), 1, 0), (yX7_partnerFor, cX7_partnerFor, 5, (some .int), (552, 551, 2, 73), 2, 0), (yX8_clearTo, cX8_clearTo, 2, none, (1176, 1174, 1175, 79), 1, 0), (yX8_hasPlaces, cX8_hasPlaces, 3, (some .boolean), (1192, 1190, 1191, 79), 2, 0), (yX8_init, cX8_init, 1, none, (307, 306, 0, 79), 0, 2), (yX8_isMissing, cX8_isMissing, 1, (some .boolean), (521, 519, 520, 79), 0, 0), (yX9_addFour, cX9_addFour, 3, none, (865, 863, 864, 75), 1, 0), (yX9_byteAt, cX9_byteAt, 2, (some .int), (889, 888, 9, 75), 1, 0), (yX9_goOn, cX9_goOn, 2, none, (885, 883, 884, 75), 0, 0), (yX9_init, cX9_init, 1, none, (197, 196, 0, 75), 0, 2), (yX9_isAtEnd, cX9_isAtEnd, 1, (some .boolean), (972, 970, 971, 75), 0, 0), (yX9_isAtWord, cX9_isAtWord, 3, (some .boolean), (907, 905, 906, 75), 1, 0), (yX9_isRow, cX9_isRow, 1, (some .boolean), (898, 897, 0, 75), 1, 1), (yX9_letterAtHand, cX9_letterAtHand, 1, (some .char), (945, 943, 944, 75), 0, 0), (yX9_numberAtHand, cX9_numberAtHand, 3, (some .int), (955, 953, 954, 75), 0, 0), (yX9_rewind, cX9_rewind, 1, none, (881, 879, 880, 75), 0, 0), (yX9_signAtHand, cX9_signAtHand, 1, (some .char), (963, 961, 962, 75), 0, 0), (yX9_sortAt, cX9_sortAt, 3, (some .int), (893, 892, 10, 75), 1, 0)]
def mdl : List MD := mdl_0 ++ (mdl_1 ++ (mdl_2 ++ (mdl_3 ++ (mdl_4 ++ (mdl_5 ++ (mdl_6))))))
def md0 : MD := (⟨"", "", ""⟩, ⟨#[]⟩, 0, none, (0, 0, 0, 0), 0, 0)
/-- method number j, from 2 on -/
def md (j : Nat) : MD := mdl.getD (j - 2) md0
def wAt (i : Nat) (w : Cond) : Bool := decide (lw_tbl[i]? = some w)
def gAt (i : Nat) (w : Cond) : Bool := wAt i w && goodWord w
def nAt (i : Nat) (w : Cond) : Bool := wAt i w && isNst w
theorem gAt_mem {i : Nat} {w : Cond} (h : gAt i w = true) : w ∈ tw := by
  simp only [gAt, wAt, Bool.and_eq_true, decide_eq_true_eq] at h
  exact List.mem_filter.mpr ⟨List.mem_of_getElem? h.1, h.2⟩
theorem nAt_mem {i : Nat} {w : Cond} (h : nAt i w = true) : w ∈ nst := by
  simp only [nAt, wAt, Bool.and_eq_true, decide_eq_true_eq] at h
  exact List.mem_filter.mpr ⟨List.mem_of_getElem? h.1, h.2⟩
def cK (k : Nat) : vw_C := vwCl.getD k (RX0, TX0, 0)
def ckF (q : Nat × Nat × Nat × Nat × Nat × Nat) : Bool := match q with
  | (o, i, k, j, n, z) => decide (k < 13) && decide (j < (cK k).2.2) && (bif Nat.beq n 0 then gAt z (.fieldLink (cnm o) i ((cK k).2.1 j).1 ((cK k).2.1 j).2.1 ((cK k).2.1 j).2.2.1) else nAt z (.fieldLinkNest (cnm o) i ((cK k).2.1 j).1 ((cK k).2.1 j).2.1 ((cK k).2.1 j).2.2.1 "StrikeBallots"))
theorem lkF_ok : lkF.all ckF = true := by decide +kernel
def ckM (q : Nat × Nat × Nat × Nat × Nat) : Bool := match q with
  | (o, i, j, n, z) => bif Nat.beq n 0 then gAt z (.methodLink (cnm o) i (md j).1) else nAt z (.methodLinkNest (cnm o) i (md j).1 "StrikeBallots")
theorem lkM_ok : lkM.all ckM = true := by decide +kernel
def ckI (q : Nat × Nat × Int32 × Nat) : Bool := match q with
  | (o, i, v, z) => gAt z (.constant (cnm o) i v)
theorem lkI_ok : lkI.all ckI = true := by decide +kernel
def ckJ (q : Nat × Nat × Int64 × Nat) : Bool := match q with
  | (o, i, v, z) => gAt z (.constantLong (cnm o) i v)
theorem lkJ_ok : lkJ.all ckJ = true := by decide +kernel
def ckC (q : Nat × Nat × Nat × Nat) : Bool := match q with
  | (o, i, k, z) => decide (k < 13) && gAt z (.classLink (cnm o) i (cK k).1)
theorem lkC_ok : lkC.all ckC = true := by decide +kernel
def gsn (k : Nat) : String × String × String := match k with
  | 0 => ("java/lang/String", "COMPACT_STRINGS", "Z")
  | 1 => ("jdk/internal/util/Preconditions", "SIOOBE_FORMATTER", "Ljava/util/function/BiFunction;")
  | 2 => ("StrikeBallots$Plan", "LOWEST", "[I")
  | _ => ("StrikeBallots$Plan", "HIGHEST", "[I")
def ckG (q : Nat × Nat × Nat × Nat × Nat) : Bool := match q with
  | (o, i, k, n, z) => bif Nat.beq n 0 then gAt z (.fieldLink (cnm o) i (gsn k).1 (gsn k).2.1 (gsn k).2.2) else nAt z (.fieldLinkNest (cnm o) i (gsn k).1 (gsn k).2.1 (gsn k).2.2 "StrikeBallots")
theorem lkG_ok : lkG.all ckG = true := by decide +kernel
def ckV (q : Nat × Nat × Nat × Nat) : Bool := match q with
  | (o, i, k, z) => gAt z (.fieldLink (cnm o) i "java/lang/String" (bif Nat.beq k 0 then "value" else "coder") (bif Nat.beq k 0 then "[B" else "B"))
theorem lkV_ok : lkV.all ckV = true := by decide +kernel
def ckD (q : MD) : Bool := match q with
  | (y, cc, n, r, (z0, z1, z2, z3), na, k) => gAt z3 (.initialized y.cls) && plainName y.cls && decide (y.cls ≠ "java/lang/invoke/MethodHandle" ∧ y.cls ≠ "java/lang/invoke/VarHandle" ∧ (parseMethodDescriptor y.desc).map (fun d => d.parameters.length) = some na) && decide (n ≤ 9) && (bif Nat.beq k 1 then gAt z1 (.static y) else gAt z1 (.instanceMethod y)) && (bif Nat.beq k 0 then gAt z2 (.selects y.cls y y) else true) && (bif Nat.beq k 2 then decide (y.name = "<init>" ∧ r = none) else true)

theorem tin_1 {w : Cond} (h : w ∈ tables_1_1) (hg : goodWord w = true) : w ∈ tw := List.mem_filter.mpr ⟨List.mem_append_right _ (show w ∈ tables_1 from List.mem_append_left _ h), hg⟩
theorem tin_2 {w : Cond} (h : w ∈ tables_1_2) (hg : goodWord w = true) : w ∈ tw := List.mem_filter.mpr ⟨List.mem_append_right _ (show w ∈ tables_1 from List.mem_append_right _ (List.mem_append_left _ h)), hg⟩
theorem tin_3 {w : Cond} (h : w ∈ tables_1_3) (hg : goodWord w = true) : w ∈ tw := List.mem_filter.mpr ⟨List.mem_append_right _ (show w ∈ tables_1 from List.mem_append_right _ (List.mem_append_right _ (List.mem_append_left _ h))), hg⟩
theorem tin_4 {w : Cond} (h : w ∈ tables_1_4) (hg : goodWord w = true) : w ∈ tw := List.mem_filter.mpr ⟨List.mem_append_right _ (show w ∈ tables_1 from List.mem_append_right _ (List.mem_append_right _ (List.mem_append_right _ (List.mem_append_left _ h)))), hg⟩
theorem tin_5 {w : Cond} (h : w ∈ tables_1_5) (hg : goodWord w = true) : w ∈ tw := List.mem_filter.mpr ⟨List.mem_append_right _ (show w ∈ tables_1 from List.mem_append_right _ (List.mem_append_right _ (List.mem_append_right _ (List.mem_append_right _ (List.mem_append_left _ h))))), hg⟩
theorem tin_6 {w : Cond} (h : w ∈ tables_1_6) (hg : goodWord w = true) : w ∈ tw := List.mem_filter.mpr ⟨List.mem_append_right _ (show w ∈ tables_1 from List.mem_append_right _ (List.mem_append_right _ (List.mem_append_right _ (List.mem_append_right _ (List.mem_append_right _ (List.mem_append_left _ h)))))), hg⟩
theorem tin_7 {w : Cond} (h : w ∈ tables_1_7) (hg : goodWord w = true) : w ∈ tw := List.mem_filter.mpr ⟨List.mem_append_right _ (show w ∈ tables_1 from List.mem_append_right _ (List.mem_append_right _ (List.mem_append_right _ (List.mem_append_right _ (List.mem_append_right _ (List.mem_append_right _ (List.mem_append_left _ h))))))), hg⟩
theorem tin_8 {w : Cond} (h : w ∈ tables_1_8) (hg : goodWord w = true) : w ∈ tw := List.mem_filter.mpr ⟨List.mem_append_right _ (show w ∈ tables_1 from List.mem_append_right _ (List.mem_append_right _ (List.mem_append_right _ (List.mem_append_right _ (List.mem_append_right _ (List.mem_append_right _ (List.mem_append_right _ (h)))))))), hg⟩
section
set_option maxRecDepth 20000 in
theorem cw_J0_charAt_5068e : Cond.code yJ0_charAt_5068e cJ0_charAt_5068e 2 (some .char) ∈ tw := tin_4 (List.mem_of_getElem? (i := 122) rfl) rfl
set_option maxRecDepth 20000 in
theorem cw_J0_checkBoundsBeginEnd_23922 : Cond.code yJ0_checkBoundsBeginEnd_23922 cJ0_checkBoundsBeginEnd_23922 3 none ∈ tw := tin_3 (List.mem_of_getElem? (i := 197) rfl) rfl
set_option maxRecDepth 20000 in
theorem cw_J0_checkIndex_df160 : Cond.code yJ0_checkIndex_df160 cJ0_checkIndex_df160 2 none ∈ tw := tin_4 (List.mem_of_getElem? (i := 128) rfl) rfl
set_option maxRecDepth 20000 in
theorem cw_J0_coder_7d493 : Cond.code yJ0_coder_7d493 cJ0_coder_7d493 1 (some .byte) ∈ tw := tin_3 (List.mem_of_getElem? (i := 164) rfl) rfl
set_option maxRecDepth 20000 in
theorem cw_J0_indexOf_0f7a4 : Cond.code yJ0_indexOf_0f7a4 cJ0_indexOf_0f7a4 2 (some .int) ∈ tw := tin_3 (List.mem_of_getElem? (i := 146) rfl) rfl
set_option maxRecDepth 20000 in
theorem cw_J0_indexOf_7cf53 : Cond.code yJ0_indexOf_7cf53 cJ0_indexOf_7cf53 3 (some .int) ∈ tw := tin_3 (List.mem_of_getElem? (i := 150) rfl) rfl
set_option maxRecDepth 20000 in
theorem cw_J0_isLatin1_aae02 : Cond.code yJ0_isLatin1_aae02 cJ0_isLatin1_aae02 1 (some .boolean) ∈ tw := tin_3 (List.mem_of_getElem? (i := 154) rfl) rfl
set_option maxRecDepth 20000 in
theorem cw_J0_length_8abf5 : Cond.code yJ0_length_8abf5 cJ0_length_8abf5 1 (some .int) ∈ tw := tin_3 (List.mem_of_getElem? (i := 160) rfl) rfl
set_option maxRecDepth 20000 in
theorem cw_J11_highSurrogate_5068e : Cond.code yJ11_highSurrogate_5068e cJ11_highSurrogate_5068e 1 (some .char) ∈ tw := tin_3 (List.mem_of_getElem? (i := 223) rfl) rfl
set_option maxRecDepth 20000 in
theorem cw_J11_isValidCodePoint_9a6ad : Cond.code yJ11_isValidCodePoint_9a6ad cJ11_isValidCodePoint_9a6ad 2 (some .boolean) ∈ tw := tin_3 (List.mem_of_getElem? (i := 220) rfl) rfl
set_option maxRecDepth 20000 in
theorem cw_J11_lowSurrogate_5068e : Cond.code yJ11_lowSurrogate_5068e cJ11_lowSurrogate_5068e 1 (some .char) ∈ tw := tin_3 (List.mem_of_getElem? (i := 227) rfl) rfl
set_option maxRecDepth 20000 in
theorem cw_J13_bitCount_95d88 : Cond.code yJ13_bitCount_95d88 cJ13_bitCount_95d88 2 (some .int) ∈ tw := tin_5 (List.mem_of_getElem? (i := 32) rfl) rfl
set_option maxRecDepth 20000 in
theorem cw_J1_canEncode_9a6ad : Cond.code yJ1_canEncode_9a6ad cJ1_canEncode_9a6ad 1 (some .boolean) ∈ tw := tin_3 (List.mem_of_getElem? (i := 170) rfl) rfl
set_option maxRecDepth 20000 in
theorem cw_J1_charAt_3b067 : Cond.code yJ1_charAt_3b067 cJ1_charAt_3b067 2 (some .char) ∈ tw := tin_4 (List.mem_of_getElem? (i := 125) rfl) rfl
set_option maxRecDepth 20000 in
theorem cw_J1_indexOfChar_4cfef : Cond.code yJ1_indexOfChar_4cfef cJ1_indexOfChar_4cfef 6 (some .int) ∈ tw := tin_3 (List.mem_of_getElem? (i := 179) rfl) rfl
set_option maxRecDepth 20000 in
theorem cw_J1_indexOf_4cfef : Cond.code yJ1_indexOf_4cfef cJ1_indexOf_4cfef 4 (some .int) ∈ tw := tin_3 (List.mem_of_getElem? (i := 167) rfl) rfl
set_option maxRecDepth 20000 in
theorem cw_J2_charAt_3b067 : Cond.code yJ2_charAt_3b067 cJ2_charAt_3b067 2 (some .char) ∈ tw := tin_4 (List.mem_of_getElem? (i := 134) rfl) rfl
set_option maxRecDepth 20000 in
theorem cw_J2_checkBoundsBeginEnd_d044e : Cond.code yJ2_checkBoundsBeginEnd_d044e cJ2_checkBoundsBeginEnd_d044e 3 none ∈ tw := tin_3 (List.mem_of_getElem? (i := 191) rfl) rfl
set_option maxRecDepth 20000 in
theorem cw_J2_checkIndex_2214a : Cond.code yJ2_checkIndex_2214a cJ2_checkIndex_2214a 2 none ∈ tw := tin_4 (List.mem_of_getElem? (i := 137) rfl) rfl
set_option maxRecDepth 20000 in
theorem cw_J2_getChar_3b067 : Cond.code yJ2_getChar_3b067 cJ2_getChar_3b067 2 (some .char) ∈ tw := tin_3 (List.mem_of_getElem? (i := 208) rfl) rfl
set_option maxRecDepth 20000 in
theorem cw_J2_indexOfCharUnsafe_4cfef : Cond.code yJ2_indexOfCharUnsafe_4cfef cJ2_indexOfCharUnsafe_4cfef 5 (some .int) ∈ tw := tin_3 (List.mem_of_getElem? (i := 205) rfl) rfl
set_option maxRecDepth 20000 in
theorem cw_J2_indexOfChar_4cfef : Cond.code yJ2_indexOfChar_4cfef cJ2_indexOfChar_4cfef 4 (some .int) ∈ tw := tin_3 (List.mem_of_getElem? (i := 188) rfl) rfl
set_option maxRecDepth 20000 in
theorem cw_J2_indexOfSupplementary_4cfef : Cond.code yJ2_indexOfSupplementary_4cfef cJ2_indexOfSupplementary_4cfef 7 (some .int) ∈ tw := tin_3 (List.mem_of_getElem? (i := 217) rfl) rfl
set_option maxRecDepth 20000 in
theorem cw_J2_indexOf_4cfef : Cond.code yJ2_indexOf_4cfef cJ2_indexOf_4cfef 4 (some .int) ∈ tw := tin_3 (List.mem_of_getElem? (i := 182) rfl) rfl
set_option maxRecDepth 20000 in
theorem cw_J2_length_9d52b : Cond.code yJ2_length_9d52b cJ2_length_9d52b 1 (some .int) ∈ tw := tin_3 (List.mem_of_getElem? (i := 194) rfl) rfl
set_option maxRecDepth 20000 in
theorem cw_J3_checkFromToIndex_8c36e : Cond.code yJ3_checkFromToIndex_8c36e cJ3_checkFromToIndex_8c36e 4 (some .int) ∈ tw := tin_3 (List.mem_of_getElem? (i := 202) rfl) rfl
set_option maxRecDepth 20000 in
theorem cw_J3_checkIndex_8e157 : Cond.code yJ3_checkIndex_8e157 cJ3_checkIndex_8e157 3 (some .int) ∈ tw := tin_4 (List.mem_of_getElem? (i := 131) rfl) rfl
set_option maxRecDepth 20000 in
theorem cw_J6_bitCount_0f7a4 : Cond.code yJ6_bitCount_0f7a4 cJ6_bitCount_0f7a4 1 (some .int) ∈ tw := tin_5 (List.mem_of_getElem? (i := 104) rfl) rfl
set_option maxRecDepth 20000 in
theorem cw_J7_fill_53178 : Cond.code yJ7_fill_53178 cJ7_fill_53178 4 none ∈ tw := tin_2 (List.mem_of_getElem? (i := 234) rfl) rfl
set_option maxRecDepth 20000 in
theorem cw_J7_fill_fb410 : Cond.code yJ7_fill_fb410 cJ7_fill_fb410 4 none ∈ tw := tin_5 (List.mem_of_getElem? (i := 149) rfl) rfl
set_option maxRecDepth 20000 in
theorem cw_X0_entitledOf : Cond.code yX0_entitledOf cX0_entitledOf 4 (some .int) ∈ tw := tin_4 (List.mem_of_getElem? (i := 45) rfl) rfl
set_option maxRecDepth 20000 in
theorem cw_X0_hasBranch : Cond.code yX0_hasBranch cX0_hasBranch 2 (some .boolean) ∈ tw := tin_4 (List.mem_of_getElem? (i := 41) rfl) rfl
set_option maxRecDepth 20000 in
theorem cw_X0_hasClosed : Cond.code yX0_hasClosed cX0_hasClosed 1 (some .boolean) ∈ tw := tin_3 (List.mem_of_getElem? (i := 92) rfl) rfl
set_option maxRecDepth 20000 in
theorem cw_X0_hasHeard : Cond.code yX0_hasHeard cX0_hasHeard 2 (some .boolean) ∈ tw := tin_3 (List.mem_of_getElem? (i := 123) rfl) rfl
set_option maxRecDepth 20000 in
theorem cw_X0_hasSent : Cond.code yX0_hasSent cX0_hasSent 2 (some .boolean) ∈ tw := tin_3 (List.mem_of_getElem? (i := 96) rfl) rfl
set_option maxRecDepth 20000 in
theorem cw_X0_hear : Cond.code yX0_hear cX0_hear 3 none ∈ tw := tin_3 (List.mem_of_getElem? (i := 127) rfl) rfl
set_option maxRecDepth 20000 in
theorem cw_X0_heardOf : Cond.code yX0_heardOf cX0_heardOf 5 (some .int) ∈ tw := tin_4 (List.mem_of_getElem? (i := 58) rfl) rfl
set_option maxRecDepth 20000 in
theorem cw_X0_init : Cond.code yX0_init cX0_init 3 none ∈ tw := tin_3 (List.mem_of_getElem? (i := 49) rfl) rfl
set_option maxRecDepth 20000 in
theorem cw_X0_post : Cond.code yX0_post cX0_post 2 none ∈ tw := tin_3 (List.mem_of_getElem? (i := 101) rfl) rfl
set_option maxRecDepth 20000 in
theorem cw_X0_postToMissed : Cond.code yX0_postToMissed cX0_postToMissed 3 (some .int) ∈ tw := tin_3 (List.mem_of_getElem? (i := 109) rfl) rfl
set_option maxRecDepth 20000 in
theorem cw_X0_tellEntitled : Cond.code yX0_tellEntitled cX0_tellEntitled 4 none ∈ tw := tin_4 (List.mem_of_getElem? (i := 5) rfl) rfl
set_option maxRecDepth 20000 in
theorem cw_X0_tellNames : Cond.code yX0_tellNames cX0_tellNames 4 none ∈ tw := tin_3 (List.mem_of_getElem? (i := 236) rfl) rfl
set_option maxRecDepth 20000 in
theorem cw_X10_addBranch : Cond.code yX10_addBranch cX10_addBranch 2 (some .int) ∈ tw := tin_2 (List.mem_of_getElem? (i := 74) rfl) rfl
set_option maxRecDepth 20000 in
theorem cw_X10_addMember : Cond.code yX10_addMember cX10_addMember 2 (some .int) ∈ tw := tin_2 (List.mem_of_getElem? (i := 143) rfl) rfl
set_option maxRecDepth 20000 in
theorem cw_X10_branchOn : Cond.code yX10_branchOn cX10_branchOn 4 (some .int) ∈ tw := tin_3 (List.mem_of_getElem? (i := 20) rfl) rfl
set_option maxRecDepth 20000 in
theorem cw_X10_hasBranch : Cond.code yX10_hasBranch cX10_hasBranch 2 (some .boolean) ∈ tw := tin_2 (List.mem_of_getElem? (i := 83) rfl) rfl
set_option maxRecDepth 20000 in
theorem cw_X10_hasVital : Cond.code yX10_hasVital cX10_hasVital 3 (some .boolean) ∈ tw := tin_4 (List.mem_of_getElem? (i := 14) rfl) rfl
set_option maxRecDepth 20000 in
theorem cw_X10_init : Cond.code yX10_init cX10_init 1 none ∈ tw := tin_1 (List.mem_of_getElem? (i := 36) rfl) rfl
set_option maxRecDepth 20000 in
theorem cw_X10_isAmong : Cond.code yX10_isAmong cX10_isAmong 5 (some .boolean) ∈ tw := tin_3 (List.mem_of_getElem? (i := 114) rfl) rfl
set_option maxRecDepth 20000 in
theorem cw_X10_isBranchOf : Cond.code yX10_isBranchOf cX10_isBranchOf 4 (some .boolean) ∈ tw := tin_2 (List.mem_of_getElem? (i := 87) rfl) rfl
set_option maxRecDepth 20000 in
theorem cw_X10_isKind : Cond.code yX10_isKind cX10_isKind 1 (some .boolean) ∈ tw := tin_2 (List.mem_of_getElem? (i := 65) rfl) rfl
set_option maxRecDepth 20000 in
theorem cw_X10_memberAt : Cond.code yX10_memberAt cX10_memberAt 2 (some (.object "StrikeBallots$Member")) ∈ tw := tin_2 (List.mem_of_getElem? (i := 151) rfl) rfl
set_option maxRecDepth 20000 in
theorem cw_X10_sizeOf : Cond.code yX10_sizeOf cX10_sizeOf 4 (some .int) ∈ tw := tin_3 (List.mem_of_getElem? (i := 16) rfl) rfl
set_option maxRecDepth 20000 in
theorem cw_X10_stayers : Cond.code yX10_stayers cX10_stayers 4 (some .int) ∈ tw := tin_5 (List.mem_of_getElem? (i := 173) rfl) rfl
set_option maxRecDepth 20000 in
theorem cw_X10_strikePay : Cond.code yX10_strikePay cX10_strikePay 6 (some .int) ∈ tw := tin_5 (List.mem_of_getElem? (i := 81) rfl) rfl
set_option maxRecDepth 20000 in
theorem cw_X10_strikesVital : Cond.code yX10_strikesVital cX10_strikesVital 3 (some .boolean) ∈ tw := tin_5 (List.mem_of_getElem? (i := 89) rfl) rfl
set_option maxRecDepth 20000 in
theorem cw_X10_wrongIn : Cond.code yX10_wrongIn cX10_wrongIn 7 (some .int) ∈ tw := tin_5 (List.mem_of_getElem? (i := 28) rfl) rfl
set_option maxRecDepth 20000 in
theorem cw_X11_about : Cond.code yX11_about cX11_about 4 (some .int) ∈ tw := tin_4 (List.mem_of_getElem? (i := 29) rfl) rfl
set_option maxRecDepth 20000 in
theorem cw_X11_back : Cond.code yX11_back cX11_back 5 (some .int) ∈ tw := tin_3 (List.mem_of_getElem? (i := 119) rfl) rfl
set_option maxRecDepth 20000 in
theorem cw_X11_ballotAt : Cond.code yX11_ballotAt cX11_ballotAt 2 (some (.object "StrikeBallots$Ballot")) ∈ tw := tin_3 (List.mem_of_getElem? (i := 88) rfl) rfl
set_option maxRecDepth 20000 in
theorem cw_X11_branch : Cond.code yX11_branch cX11_branch 2 (some .int) ∈ tw := tin_2 (List.mem_of_getElem? (i := 62) rfl) rfl
set_option maxRecDepth 20000 in
theorem cw_X11_check : Cond.code yX11_check cX11_check 4 (some .int) ∈ tw := tin_5 (List.mem_of_getElem? (i := 123) rfl) rfl
set_option maxRecDepth 20000 in
theorem cw_X11_close : Cond.code yX11_close cX11_close 3 (some .int) ∈ tw := tin_3 (List.mem_of_getElem? (i := 131) rfl) rfl
set_option maxRecDepth 20000 in
theorem cw_X11_copy : Cond.code yX11_copy cX11_copy 8 (some .int) ∈ tw := tin_5 (List.mem_of_getElem? (i := 158) rfl) rfl
set_option maxRecDepth 20000 in
theorem cw_X11_cost : Cond.code yX11_cost cX11_cost 3 (some .int) ∈ tw := tin_5 (List.mem_of_getElem? (i := 115) rfl) rfl
set_option maxRecDepth 20000 in
theorem cw_X11_count : Cond.code yX11_count cX11_count 2 (some .int) ∈ tw := tin_5 (List.mem_of_getElem? (i := 169) rfl) rfl
set_option maxRecDepth 20000 in
theorem cw_X11_cure : Cond.code yX11_cure cX11_cure 6 (some .int) ∈ tw := tin_4 (List.mem_of_getElem? (i := 232) rfl) rfl
set_option maxRecDepth 20000 in
theorem cw_X11_dayOrNone : Cond.code yX11_dayOrNone cX11_dayOrNone 1 (some .int) ∈ tw := tin_2 (List.mem_of_getElem? (i := 184) rfl) rfl
set_option maxRecDepth 20000 in
theorem cw_X11_days : Cond.code yX11_days cX11_days 2 (some .int) ∈ tw := tin_3 (List.mem_of_getElem? (i := 41) rfl) rfl
set_option maxRecDepth 20000 in
theorem cw_X11_docked : Cond.code yX11_docked cX11_docked 4 (some .int) ∈ tw := tin_5 (List.mem_of_getElem? (i := 135) rfl) rfl
set_option maxRecDepth 20000 in
theorem cw_X11_feed : Cond.code yX11_feed cX11_feed 4 (some .int) ∈ tw := tin_4 (List.mem_of_getElem? (i := 71) rfl) rfl
set_option maxRecDepth 20000 in
theorem cw_X11_harm : Cond.code yX11_harm cX11_harm 4 (some .int) ∈ tw := tin_5 (List.mem_of_getElem? (i := 51) rfl) rfl
set_option maxRecDepth 20000 in
theorem cw_X11_holds : Cond.code yX11_holds cX11_holds 4 (some .int) ∈ tw := tin_5 (List.mem_of_getElem? (i := 47) rfl) rfl
set_option maxRecDepth 20000 in
theorem cw_X11_init : Cond.code yX11_init cX11_init 1 none ∈ tw := tin_1 (List.mem_of_getElem? (i := 28) rfl) rfl
set_option maxRecDepth 20000 in
theorem cw_X11_isHalfList : Cond.code yX11_isHalfList cX11_isHalfList 1 (some .boolean) ∈ tw := tin_5 (List.mem_of_getElem? (i := 0) rfl) rfl
set_option maxRecDepth 20000 in
theorem cw_X11_isKnownDay : Cond.code yX11_isKnownDay cX11_isKnownDay 3 (some .boolean) ∈ tw := tin_3 (List.mem_of_getElem? (i := 232) rfl) rfl
set_option maxRecDepth 20000 in
theorem cw_X11_isLetter : Cond.code yX11_isLetter cX11_isLetter 1 (some .boolean) ∈ tw := tin_3 (List.mem_of_getElem? (i := 138) rfl) rfl
set_option maxRecDepth 20000 in
theorem cw_X11_isLiving : Cond.code yX11_isLiving cX11_isLiving 4 (some .boolean) ∈ tw := tin_4 (List.mem_of_getElem? (i := 228) rfl) rfl
set_option maxRecDepth 20000 in
theorem cw_X11_isMark : Cond.code yX11_isMark cX11_isMark 1 (some .boolean) ∈ tw := tin_2 (List.mem_of_getElem? (i := 98) rfl) rfl
set_option maxRecDepth 20000 in
theorem cw_X11_isOf : Cond.code yX11_isOf cX11_isOf 3 (some .int) ∈ tw := tin_2 (List.mem_of_getElem? (i := 79) rfl) rfl
set_option maxRecDepth 20000 in
theorem cw_X11_isStanding : Cond.code yX11_isStanding cX11_isStanding 3 (some .boolean) ∈ tw := tin_4 (List.mem_of_getElem? (i := 220) rfl) rfl
set_option maxRecDepth 20000 in
theorem cw_X11_isWithin : Cond.code yX11_isWithin cX11_isWithin 3 (some .boolean) ∈ tw := tin_2 (List.mem_of_getElem? (i := 68) rfl) rfl
set_option maxRecDepth 20000 in
theorem cw_X11_joined : Cond.code yX11_joined cX11_joined 2 (some .int) ∈ tw := tin_2 (List.mem_of_getElem? (i := 226) rfl) rfl
set_option maxRecDepth 20000 in
theorem cw_X11_law : Cond.code yX11_law cX11_law 3 (some .int) ∈ tw := tin_4 (List.mem_of_getElem? (i := 83) rfl) rfl
set_option maxRecDepth 20000 in
theorem cw_X11_lawFor : Cond.code yX11_lawFor cX11_lawFor 4 (some .int) ∈ tw := tin_4 (List.mem_of_getElem? (i := 190) rfl) rfl
set_option maxRecDepth 20000 in
theorem cw_X11_lay : Cond.code yX11_lay cX11_lay 3 (some .int) ∈ tw := tin_5 (List.mem_of_getElem? (i := 55) rfl) rfl
set_option maxRecDepth 20000 in
theorem cw_X11_leave : Cond.code yX11_leave cX11_leave 3 (some .int) ∈ tw := tin_2 (List.mem_of_getElem? (i := 168) rfl) rfl
set_option maxRecDepth 20000 in
theorem cw_X11_line : Cond.code yX11_line cX11_line 3 (some .int) ∈ tw := tin_2 (List.mem_of_getElem? (i := 189) rfl) rfl
set_option maxRecDepth 20000 in
theorem cw_X11_lives : Cond.code yX11_lives cX11_lives 4 (some .int) ∈ tw := tin_4 (List.mem_of_getElem? (i := 224) rfl) rfl
set_option maxRecDepth 20000 in
theorem cw_X11_makePlan : Cond.code yX11_makePlan cX11_makePlan 6 (some .boolean) ∈ tw := tin_5 (List.mem_of_getElem? (i := 77) rfl) rfl
set_option maxRecDepth 20000 in
theorem cw_X11_mark : Cond.code yX11_mark cX11_mark 6 (some .int) ∈ tw := tin_5 (List.mem_of_getElem? (i := 153) rfl) rfl
set_option maxRecDepth 20000 in
theorem cw_X11_member : Cond.code yX11_member cX11_member 5 (some .int) ∈ tw := tin_2 (List.mem_of_getElem? (i := 95) rfl) rfl
set_option maxRecDepth 20000 in
theorem cw_X11_move : Cond.code yX11_move cX11_move 5 (some .int) ∈ tw := tin_2 (List.mem_of_getElem? (i := 147) rfl) rfl
set_option maxRecDepth 20000 in
theorem cw_X11_name : Cond.code yX11_name cX11_name 5 (some .int) ∈ tw := tin_3 (List.mem_of_getElem? (i := 135) rfl) rfl
set_option maxRecDepth 20000 in
theorem cw_X11_notice : Cond.code yX11_notice cX11_notice 9 (some .int) ∈ tw := tin_4 (List.mem_of_getElem? (i := 237) rfl) rfl
set_option maxRecDepth 20000 in
theorem cw_X11_noticeAt : Cond.code yX11_noticeAt cX11_noticeAt 2 (some (.object "StrikeBallots$Notice")) ∈ tw := tin_5 (List.mem_of_getElem? (i := 43) rfl) rfl
set_option maxRecDepth 20000 in
theorem cw_X11_noticed : Cond.code yX11_noticed cX11_noticed 4 (some .int) ∈ tw := tin_5 (List.mem_of_getElem? (i := 39) rfl) rfl
set_option maxRecDepth 20000 in
theorem cw_X11_of : Cond.code yX11_of cX11_of 4 (some .int) ∈ tw := tin_2 (List.mem_of_getElem? (i := 172) rfl) rfl
set_option maxRecDepth 20000 in
theorem cw_X11_oneIf : Cond.code yX11_oneIf cX11_oneIf 1 (some .int) ∈ tw := tin_2 (List.mem_of_getElem? (i := 91) rfl) rfl
set_option maxRecDepth 20000 in
theorem cw_X11_open : Cond.code yX11_open cX11_open 2 (some .int) ∈ tw := tin_3 (List.mem_of_getElem? (i := 45) rfl) rfl
set_option maxRecDepth 20000 in
theorem cw_X11_parcel : Cond.code yX11_parcel cX11_parcel 5 (some .int) ∈ tw := tin_4 (List.mem_of_getElem? (i := 67) rfl) rfl
set_option maxRecDepth 20000 in
theorem cw_X11_parcels : Cond.code yX11_parcels cX11_parcels 3 (some .int) ∈ tw := tin_4 (List.mem_of_getElem? (i := 33) rfl) rfl
set_option maxRecDepth 20000 in
theorem cw_X11_plan : Cond.code yX11_plan cX11_plan 3 (some .int) ∈ tw := tin_5 (List.mem_of_getElem? (i := 73) rfl) rfl
set_option maxRecDepth 20000 in
theorem cw_X11_planned : Cond.code yX11_planned cX11_planned 3 (some .int) ∈ tw := tin_5 (List.mem_of_getElem? (i := 111) rfl) rfl
set_option maxRecDepth 20000 in
theorem cw_X11_roll : Cond.code yX11_roll cX11_roll 4 (some .int) ∈ tw := tin_2 (List.mem_of_getElem? (i := 203) rfl) rfl
set_option maxRecDepth 20000 in
theorem cw_X11_rolls : Cond.code yX11_rolls cX11_rolls 3 (some .int) ∈ tw := tin_3 (List.mem_of_getElem? (i := 12) rfl) rfl
set_option maxRecDepth 20000 in
theorem cw_X11_rule : Cond.code yX11_rule cX11_rule 4 (some .int) ∈ tw := tin_5 (List.mem_of_getElem? (i := 65) rfl) rfl
set_option maxRecDepth 20000 in
theorem cw_X11_says : Cond.code yX11_says cX11_says 5 (some .int) ∈ tw := tin_4 (List.mem_of_getElem? (i := 186) rfl) rfl
set_option maxRecDepth 20000 in
theorem cw_X11_send : Cond.code yX11_send cX11_send 4 (some .int) ∈ tw := tin_3 (List.mem_of_getElem? (i := 84) rfl) rfl
set_option maxRecDepth 20000 in
theorem cw_X11_sendAll : Cond.code yX11_sendAll cX11_sendAll 3 (some .int) ∈ tw := tin_3 (List.mem_of_getElem? (i := 105) rfl) rfl
set_option maxRecDepth 20000 in
theorem cw_X11_sheet : Cond.code yX11_sheet cX11_sheet 4 (some .int) ∈ tw := tin_5 (List.mem_of_getElem? (i := 141) rfl) rfl
set_option maxRecDepth 20000 in
theorem cw_X11_sheetAt : Cond.code yX11_sheetAt cX11_sheetAt 2 (some (.object "StrikeBallots$Sheet")) ∈ tw := tin_2 (List.mem_of_getElem? (i := 207) rfl) rfl
set_option maxRecDepth 20000 in
theorem cw_X11_stands : Cond.code yX11_stands cX11_stands 4 (some .int) ∈ tw := tin_4 (List.mem_of_getElem? (i := 216) rfl) rfl
set_option maxRecDepth 20000 in
theorem cw_X11_tell : Cond.code yX11_tell cX11_tell 2 (some .int) ∈ tw := tin_5 (List.mem_of_getElem? (i := 119) rfl) rfl
set_option maxRecDepth 20000 in
theorem cw_X11_told : Cond.code yX11_told cX11_told 4 (some .int) ∈ tw := tin_2 (List.mem_of_getElem? (i := 181) rfl) rfl
set_option maxRecDepth 20000 in
theorem cw_X11_trim : Cond.code yX11_trim cX11_trim 2 (some .int) ∈ tw := tin_4 (List.mem_of_getElem? (i := 79) rfl) rfl
set_option maxRecDepth 20000 in
theorem cw_X11_wipe : Cond.code yX11_wipe cX11_wipe 2 (some .int) ∈ tw := tin_2 (List.mem_of_getElem? (i := 222) rfl) rfl
set_option maxRecDepth 20000 in
theorem cw_X12_about : Cond.code yX12_about cX12_about 3 (some .int) ∈ tw := tin_7 (List.mem_of_getElem? (i := 41) rfl) rfl
set_option maxRecDepth 20000 in
theorem cw_X12_adds : Cond.code yX12_adds cX12_adds 6 none ∈ tw := tin_7 (List.mem_of_getElem? (i := 57) rfl) rfl
set_option maxRecDepth 20000 in
theorem cw_X12_and : Cond.code yX12_and cX12_and 3 (some .int) ∈ tw := tin_7 (List.mem_of_getElem? (i := 113) rfl) rfl
set_option maxRecDepth 20000 in
theorem cw_X12_at : Cond.code yX12_at cX12_at 2 (some .int) ∈ tw := tin_7 (List.mem_of_getElem? (i := 84) rfl) rfl
set_option maxRecDepth 20000 in
theorem cw_X12_back : Cond.code yX12_back cX12_back 5 (some .int) ∈ tw := tin_7 (List.mem_of_getElem? (i := 18) rfl) rfl
set_option maxRecDepth 20000 in
theorem cw_X12_bestDays : Cond.code yX12_bestDays cX12_bestDays 8 (some .int) ∈ tw := tin_7 (List.mem_of_getElem? (i := 226) rfl) rfl
set_option maxRecDepth 20000 in
theorem cw_X12_branch : Cond.code yX12_branch cX12_branch 2 (some .int) ∈ tw := tin_6 (List.mem_of_getElem? (i := 135) rfl) rfl
set_option maxRecDepth 20000 in
theorem cw_X12_branchOf : Cond.code yX12_branchOf cX12_branchOf 2 (some .int) ∈ tw := tin_6 (List.mem_of_getElem? (i := 168) rfl) rfl
set_option maxRecDepth 20000 in
theorem cw_X12_byteOf : Cond.code yX12_byteOf cX12_byteOf 2 (some .int) ∈ tw := tin_7 (List.mem_of_getElem? (i := 68) rfl) rfl
set_option maxRecDepth 20000 in
theorem cw_X12_canBe : Cond.code yX12_canBe cX12_canBe 6 (some .boolean) ∈ tw := tin_8 (List.mem_of_getElem? (i := 1) rfl) rfl
set_option maxRecDepth 20000 in
theorem cw_X12_check : Cond.code yX12_check cX12_check 8 (some .int) ∈ tw := tin_8 (List.mem_of_getElem? (i := 17) rfl) rfl
set_option maxRecDepth 20000 in
theorem cw_X12_close : Cond.code yX12_close cX12_close 2 (some .int) ∈ tw := tin_7 (List.mem_of_getElem? (i := 22) rfl) rfl
set_option maxRecDepth 20000 in
theorem cw_X12_copy : Cond.code yX12_copy cX12_copy 7 (some .int) ∈ tw := tin_8 (List.mem_of_getElem? (i := 35) rfl) rfl
set_option maxRecDepth 20000 in
theorem cw_X12_cost : Cond.code yX12_cost cX12_cost 2 (some .int) ∈ tw := tin_7 (List.mem_of_getElem? (i := 206) rfl) rfl
set_option maxRecDepth 20000 in
theorem cw_X12_costOf : Cond.code yX12_costOf cX12_costOf 4 (some .int) ∈ tw := tin_7 (List.mem_of_getElem? (i := 210) rfl) rfl
set_option maxRecDepth 20000 in
theorem cw_X12_count : Cond.code yX12_count cX12_count 4 (some .int) ∈ tw := tin_8 (List.mem_of_getElem? (i := 39) rfl) rfl
set_option maxRecDepth 20000 in
theorem cw_X12_cure : Cond.code yX12_cure cX12_cure 4 (some .int) ∈ tw := tin_7 (List.mem_of_getElem? (i := 171) rfl) rfl
set_option maxRecDepth 20000 in
theorem cw_X12_dayWage : Cond.code yX12_dayWage cX12_dayWage 2 (some .int) ∈ tw := tin_7 (List.mem_of_getElem? (i := 214) rfl) rfl
set_option maxRecDepth 20000 in
theorem cw_X12_days : Cond.code yX12_days cX12_days 2 (some .int) ∈ tw := tin_6 (List.mem_of_getElem? (i := 226) rfl) rfl
set_option maxRecDepth 20000 in
theorem cw_X12_docked : Cond.code yX12_docked cX12_docked 4 (some .int) ∈ tw := tin_8 (List.mem_of_getElem? (i := 21) rfl) rfl
set_option maxRecDepth 20000 in
theorem cw_X12_feed : Cond.code yX12_feed cX12_feed 5 (some .int) ∈ tw := tin_7 (List.mem_of_getElem? (i := 65) rfl) rfl
set_option maxRecDepth 20000 in
theorem cw_X12_figuresApart : Cond.code yX12_figuresApart cX12_figuresApart 6 (some .int) ∈ tw := tin_6 (List.mem_of_getElem? (i := 218) rfl) rfl
set_option maxRecDepth 20000 in
theorem cw_X12_fundBehind : Cond.code yX12_fundBehind cX12_fundBehind 6 (some .int) ∈ tw := tin_8 (List.mem_of_getElem? (i := 5) rfl) rfl
set_option maxRecDepth 20000 in
theorem cw_X12_gives : Cond.code yX12_gives cX12_gives 2 (some .int) ∈ tw := tin_7 (List.mem_of_getElem? (i := 151) rfl) rfl
set_option maxRecDepth 20000 in
theorem cw_X12_harm : Cond.code yX12_harm cX12_harm 4 (some .int) ∈ tw := tin_7 (List.mem_of_getElem? (i := 194) rfl) rfl
set_option maxRecDepth 20000 in
theorem cw_X12_harmOf : Cond.code yX12_harmOf cX12_harmOf 4 (some .int) ∈ tw := tin_7 (List.mem_of_getElem? (i := 234) rfl) rfl
set_option maxRecDepth 20000 in
theorem cw_X12_hasEntitled : Cond.code yX12_hasEntitled cX12_hasEntitled 5 (some .boolean) ∈ tw := tin_7 (List.mem_of_getElem? (i := 53) rfl) rfl
set_option maxRecDepth 20000 in
theorem cw_X12_holds : Cond.code yX12_holds cX12_holds 3 (some .int) ∈ tw := tin_7 (List.mem_of_getElem? (i := 190) rfl) rfl
set_option maxRecDepth 20000 in
theorem cw_X12_in : Cond.code yX12_in cX12_in 3 (some .boolean) ∈ tw := tin_6 (List.mem_of_getElem? (i := 138) rfl) rfl
set_option maxRecDepth 20000 in
theorem cw_X12_init : Cond.code yX12_init cX12_init 1 none ∈ tw := tin_5 (List.mem_of_getElem? (i := 179) rfl) rfl
set_option maxRecDepth 20000 in
theorem cw_X12_isBallot : Cond.code yX12_isBallot cX12_isBallot 2 (some .boolean) ∈ tw := tin_6 (List.mem_of_getElem? (i := 238) rfl) rfl
set_option maxRecDepth 20000 in
theorem cw_X12_isBranch : Cond.code yX12_isBranch cX12_isBranch 2 (some .boolean) ∈ tw := tin_6 (List.mem_of_getElem? (i := 148) rfl) rfl
set_option maxRecDepth 20000 in
theorem cw_X12_isDigit : Cond.code yX12_isDigit cX12_isDigit 1 (some .boolean) ∈ tw := tin_7 (List.mem_of_getElem? (i := 90) rfl) rfl
set_option maxRecDepth 20000 in
theorem cw_X12_isEntitled : Cond.code yX12_isEntitled cX12_isEntitled 3 (some .boolean) ∈ tw := tin_7 (List.mem_of_getElem? (i := 10) rfl) rfl
set_option maxRecDepth 20000 in
theorem cw_X12_isIn : Cond.code yX12_isIn cX12_isIn 5 (some .boolean) ∈ tw := tin_7 (List.mem_of_getElem? (i := 14) rfl) rfl
set_option maxRecDepth 20000 in
theorem cw_X12_isLetter : Cond.code yX12_isLetter cX12_isLetter 1 (some .boolean) ∈ tw := tin_7 (List.mem_of_getElem? (i := 87) rfl) rfl
set_option maxRecDepth 20000 in
theorem cw_X12_isList : Cond.code yX12_isList cX12_isList 5 (some .boolean) ∈ tw := tin_7 (List.mem_of_getElem? (i := 179) rfl) rfl
set_option maxRecDepth 20000 in
theorem cw_X12_isListed : Cond.code yX12_isListed cX12_isListed 3 (some .boolean) ∈ tw := tin_7 (List.mem_of_getElem? (i := 182) rfl) rfl
set_option maxRecDepth 20000 in
theorem cw_X12_isMember : Cond.code yX12_isMember cX12_isMember 2 (some .boolean) ∈ tw := tin_6 (List.mem_of_getElem? (i := 164) rfl) rfl
set_option maxRecDepth 20000 in
theorem cw_X12_isOf : Cond.code yX12_isOf cX12_isOf 3 (some .int) ∈ tw := tin_6 (List.mem_of_getElem? (i := 144) rfl) rfl
set_option maxRecDepth 20000 in
theorem cw_X12_isOfKind : Cond.code yX12_isOfKind cX12_isOfKind 3 (some .boolean) ∈ tw := tin_6 (List.mem_of_getElem? (i := 152) rfl) rfl
set_option maxRecDepth 20000 in
theorem cw_X12_isPlan : Cond.code yX12_isPlan cX12_isPlan 3 (some .boolean) ∈ tw := tin_7 (List.mem_of_getElem? (i := 222) rfl) rfl
set_option maxRecDepth 20000 in
theorem cw_X12_isSheet : Cond.code yX12_isSheet cX12_isSheet 1 (some .boolean) ∈ tw := tin_6 (List.mem_of_getElem? (i := 197) rfl) rfl
set_option maxRecDepth 20000 in
theorem cw_X12_isSign : Cond.code yX12_isSign cX12_isSign 2 (some .boolean) ∈ tw := tin_7 (List.mem_of_getElem? (i := 133) rfl) rfl
set_option maxRecDepth 20000 in
theorem cw_X12_isTime : Cond.code yX12_isTime cX12_isTime 3 (some .boolean) ∈ tw := tin_7 (List.mem_of_getElem? (i := 33) rfl) rfl
set_option maxRecDepth 20000 in
theorem cw_X12_isVital : Cond.code yX12_isVital cX12_isVital 4 (some .boolean) ∈ tw := tin_7 (List.mem_of_getElem? (i := 230) rfl) rfl
set_option maxRecDepth 20000 in
theorem cw_X12_isWord : Cond.code yX12_isWord cX12_isWord 4 (some .boolean) ∈ tw := tin_7 (List.mem_of_getElem? (i := 99) rfl) rfl
set_option maxRecDepth 20000 in
theorem cw_X12_joined : Cond.code yX12_joined cX12_joined 2 (some .int) ∈ tw := tin_6 (List.mem_of_getElem? (i := 207) rfl) rfl
set_option maxRecDepth 20000 in
theorem cw_X12_joins : Cond.code yX12_joins cX12_joins 4 none ∈ tw := tin_6 (List.mem_of_getElem? (i := 215) rfl) rfl
set_option maxRecDepth 20000 in
theorem cw_X12_joinsAll : Cond.code yX12_joinsAll cX12_joinsAll 2 none ∈ tw := tin_6 (List.mem_of_getElem? (i := 211) rfl) rfl
set_option maxRecDepth 20000 in
theorem cw_X12_knows : Cond.code yX12_knows cX12_knows 7 none ∈ tw := tin_7 (List.mem_of_getElem? (i := 37) rfl) rfl
set_option maxRecDepth 20000 in
theorem cw_X12_law : Cond.code yX12_law cX12_law 3 (some .int) ∈ tw := tin_7 (List.mem_of_getElem? (i := 76) rfl) rfl
set_option maxRecDepth 20000 in
theorem cw_X12_lay : Cond.code yX12_lay cX12_lay 5 (some .int) ∈ tw := tin_7 (List.mem_of_getElem? (i := 198) rfl) rfl
set_option maxRecDepth 20000 in
theorem cw_X12_leave : Cond.code yX12_leave cX12_leave 2 (some .int) ∈ tw := tin_6 (List.mem_of_getElem? (i := 173) rfl) rfl
set_option maxRecDepth 20000 in
theorem cw_X12_line : Cond.code yX12_line cX12_line 3 (some .int) ∈ tw := tin_6 (List.mem_of_getElem? (i := 190) rfl) rfl
set_option maxRecDepth 20000 in
theorem cw_X12_lives : Cond.code yX12_lives cX12_lives 3 (some .int) ∈ tw := tin_7 (List.mem_of_getElem? (i := 163) rfl) rfl
set_option maxRecDepth 20000 in
theorem cw_X12_livesOn : Cond.code yX12_livesOn cX12_livesOn 3 (some .boolean) ∈ tw := tin_7 (List.mem_of_getElem? (i := 167) rfl) rfl
set_option maxRecDepth 20000 in
theorem cw_X12_many : Cond.code yX12_many cX12_many 3 (some .int) ∈ tw := tin_7 (List.mem_of_getElem? (i := 237) rfl) rfl
set_option maxRecDepth 20000 in
theorem cw_X12_mark : Cond.code yX12_mark cX12_mark 5 (some .int) ∈ tw := tin_8 (List.mem_of_getElem? (i := 30) rfl) rfl
set_option maxRecDepth 20000 in
theorem cw_X12_member : Cond.code yX12_member cX12_member 5 (some .int) ∈ tw := tin_6 (List.mem_of_getElem? (i := 156) rfl) rfl
set_option maxRecDepth 20000 in
theorem cw_X12_move : Cond.code yX12_move cX12_move 4 (some .int) ∈ tw := tin_6 (List.mem_of_getElem? (i := 160) rfl) rfl
set_option maxRecDepth 20000 in
theorem cw_X12_name : Cond.code yX12_name cX12_name 4 (some .int) ∈ tw := tin_7 (List.mem_of_getElem? (i := 26) rfl) rfl
set_option maxRecDepth 20000 in
theorem cw_X12_nameOf : Cond.code yX12_nameOf cX12_nameOf 1 (some .int) ∈ tw := tin_7 (List.mem_of_getElem? (i := 29) rfl) rfl
set_option maxRecDepth 20000 in
theorem cw_X12_next : Cond.code yX12_next cX12_next 5 none ∈ tw := tin_7 (List.mem_of_getElem? (i := 80) rfl) rfl
set_option maxRecDepth 20000 in
theorem cw_X12_notice : Cond.code yX12_notice cX12_notice 9 (some .int) ∈ tw := tin_7 (List.mem_of_getElem? (i := 175) rfl) rfl
set_option maxRecDepth 20000 in
theorem cw_X12_noticed : Cond.code yX12_noticed cX12_noticed 3 (some .int) ∈ tw := tin_7 (List.mem_of_getElem? (i := 186) rfl) rfl
set_option maxRecDepth 20000 in
theorem cw_X12_number : Cond.code yX12_number cX12_number 3 (some .int) ∈ tw := tin_7 (List.mem_of_getElem? (i := 137) rfl) rfl
set_option maxRecDepth 20000 in
theorem cw_X12_of : Cond.code yX12_of cX12_of 3 (some .int) ∈ tw := tin_6 (List.mem_of_getElem? (i := 177) rfl) rfl
set_option maxRecDepth 20000 in
theorem cw_X12_ofOn : Cond.code yX12_ofOn cX12_ofOn 5 (some .int) ∈ tw := tin_6 (List.mem_of_getElem? (i := 181) rfl) rfl
set_option maxRecDepth 20000 in
theorem cw_X12_one : Cond.code yX12_one cX12_one 3 (some .int) ∈ tw := tin_7 (List.mem_of_getElem? (i := 129) rfl) rfl
set_option maxRecDepth 20000 in
theorem cw_X12_open : Cond.code yX12_open cX12_open 3 (some .int) ∈ tw := tin_6 (List.mem_of_getElem? (i := 230) rfl) rfl
set_option maxRecDepth 20000 in
theorem cw_X12_or : Cond.code yX12_or cX12_or 3 (some .int) ∈ tw := tin_7 (List.mem_of_getElem? (i := 109) rfl) rfl
set_option maxRecDepth 20000 in
theorem cw_X12_papers : Cond.code yX12_papers cX12_papers 4 (some .int) ∈ tw := tin_7 (List.mem_of_getElem? (i := 2) rfl) rfl
set_option maxRecDepth 20000 in
theorem cw_X12_parcel : Cond.code yX12_parcel cX12_parcel 4 (some .int) ∈ tw := tin_7 (List.mem_of_getElem? (i := 61) rfl) rfl
set_option maxRecDepth 20000 in
theorem cw_X12_parcels : Cond.code yX12_parcels cX12_parcels 2 (some .int) ∈ tw := tin_7 (List.mem_of_getElem? (i := 45) rfl) rfl
set_option maxRecDepth 20000 in
theorem cw_X12_parts : Cond.code yX12_parts cX12_parts 4 none ∈ tw := tin_7 (List.mem_of_getElem? (i := 49) rfl) rfl
set_option maxRecDepth 20000 in
theorem cw_X12_plan : Cond.code yX12_plan cX12_plan 3 (some .int) ∈ tw := tin_7 (List.mem_of_getElem? (i := 218) rfl) rfl
set_option maxRecDepth 20000 in
theorem cw_X12_planned : Cond.code yX12_planned cX12_planned 3 (some .int) ∈ tw := tin_8 (List.mem_of_getElem? (i := 9) rfl) rfl
set_option maxRecDepth 20000 in
theorem cw_X12_reads : Cond.code yX12_reads cX12_reads 4 none ∈ tw := tin_7 (List.mem_of_getElem? (i := 95) rfl) rfl
set_option maxRecDepth 20000 in
theorem cw_X12_roll : Cond.code yX12_roll cX12_roll 6 (some .int) ∈ tw := tin_6 (List.mem_of_getElem? (i := 194) rfl) rfl
set_option maxRecDepth 20000 in
theorem cw_X12_rolls : Cond.code yX12_rolls cX12_rolls 6 (some .int) ∈ tw := tin_6 (List.mem_of_getElem? (i := 222) rfl) rfl
set_option maxRecDepth 20000 in
theorem cw_X12_rule : Cond.code yX12_rule cX12_rule 4 (some .int) ∈ tw := tin_7 (List.mem_of_getElem? (i := 202) rfl) rfl
set_option maxRecDepth 20000 in
theorem cw_X12_says : Cond.code yX12_says cX12_says 4 (some .int) ∈ tw := tin_7 (List.mem_of_getElem? (i := 143) rfl) rfl
set_option maxRecDepth 20000 in
theorem cw_X12_saysOn : Cond.code yX12_saysOn cX12_saysOn 4 (some .int) ∈ tw := tin_7 (List.mem_of_getElem? (i := 147) rfl) rfl
set_option maxRecDepth 20000 in
theorem cw_X12_send : Cond.code yX12_send cX12_send 3 (some .int) ∈ tw := tin_6 (List.mem_of_getElem? (i := 234) rfl) rfl
set_option maxRecDepth 20000 in
theorem cw_X12_sendAll : Cond.code yX12_sendAll cX12_sendAll 4 (some .int) ∈ tw := tin_7 (List.mem_of_getElem? (i := 6) rfl) rfl
set_option maxRecDepth 20000 in
theorem cw_X12_sheet : Cond.code yX12_sheet cX12_sheet 4 (some .int) ∈ tw := tin_8 (List.mem_of_getElem? (i := 25) rfl) rfl
set_option maxRecDepth 20000 in
theorem cw_X12_stands : Cond.code yX12_stands cX12_stands 3 (some .int) ∈ tw := tin_7 (List.mem_of_getElem? (i := 155) rfl) rfl
set_option maxRecDepth 20000 in
theorem cw_X12_standsOn : Cond.code yX12_standsOn cX12_standsOn 3 (some .boolean) ∈ tw := tin_7 (List.mem_of_getElem? (i := 159) rfl) rfl
set_option maxRecDepth 20000 in
theorem cw_X12_sum : Cond.code yX12_sum cX12_sum 4 (some .int) ∈ tw := tin_7 (List.mem_of_getElem? (i := 121) rfl) rfl
set_option maxRecDepth 20000 in
theorem cw_X12_takes : Cond.code yX12_takes cX12_takes 2 none ∈ tw := tin_7 (List.mem_of_getElem? (i := 105) rfl) rfl
set_option maxRecDepth 20000 in
theorem cw_X12_tell : Cond.code yX12_tell cX12_tell 2 (some .int) ∈ tw := tin_8 (List.mem_of_getElem? (i := 13) rfl) rfl
set_option maxRecDepth 20000 in
theorem cw_X12_term : Cond.code yX12_term cX12_term 4 (some .int) ∈ tw := tin_7 (List.mem_of_getElem? (i := 125) rfl) rfl
set_option maxRecDepth 20000 in
theorem cw_X12_test : Cond.code yX12_test cX12_test 5 (some .int) ∈ tw := tin_7 (List.mem_of_getElem? (i := 117) rfl) rfl
set_option maxRecDepth 20000 in
theorem cw_X12_told : Cond.code yX12_told cX12_told 3 (some .int) ∈ tw := tin_6 (List.mem_of_getElem? (i := 186) rfl) rfl
set_option maxRecDepth 20000 in
theorem cw_X12_trim : Cond.code yX12_trim cX12_trim 2 (some .int) ∈ tw := tin_7 (List.mem_of_getElem? (i := 72) rfl) rfl
set_option maxRecDepth 20000 in
theorem cw_X12_wipe : Cond.code yX12_wipe cX12_wipe 2 (some .int) ∈ tw := tin_6 (List.mem_of_getElem? (i := 203) rfl) rfl
set_option maxRecDepth 20000 in
theorem cw_X1_apply : Cond.code yX1_apply cX1_apply 3 (some .int) ∈ tw := tin_4 (List.mem_of_getElem? (i := 212) rfl) rfl
set_option maxRecDepth 20000 in
theorem cw_X1_init : Cond.code yX1_init cX1_init 2 none ∈ tw := tin_1 (List.mem_of_getElem? (i := 151) rfl) rfl
set_option maxRecDepth 20000 in
theorem cw_X1_isBallotName : Cond.code yX1_isBallotName cX1_isBallotName 1 (some .boolean) ∈ tw := tin_3 (List.mem_of_getElem? (i := 141) rfl) rfl
set_option maxRecDepth 20000 in
theorem cw_X1_isNameHere : Cond.code yX1_isNameHere cX1_isNameHere 2 (some .boolean) ∈ tw := tin_4 (List.mem_of_getElem? (i := 159) rfl) rfl
set_option maxRecDepth 20000 in
theorem cw_X1_levelOf : Cond.code yX1_levelOf cX1_levelOf 1 (some .int) ∈ tw := tin_4 (List.mem_of_getElem? (i := 176) rfl) rfl
set_option maxRecDepth 20000 in
theorem cw_X1_operandAtHand : Cond.code yX1_operandAtHand cX1_operandAtHand 2 (some .int) ∈ tw := tin_4 (List.mem_of_getElem? (i := 151) rfl) rfl
set_option maxRecDepth 20000 in
theorem cw_X1_pop : Cond.code yX1_pop cX1_pop 1 (some .int) ∈ tw := tin_4 (List.mem_of_getElem? (i := 208) rfl) rfl
set_option maxRecDepth 20000 in
theorem cw_X1_push : Cond.code yX1_push cX1_push 2 none ∈ tw := tin_4 (List.mem_of_getElem? (i := 204) rfl) rfl
set_option maxRecDepth 20000 in
theorem cw_X1_readLevel : Cond.code yX1_readLevel cX1_readLevel 8 (some .boolean) ∈ tw := tin_4 (List.mem_of_getElem? (i := 143) rfl) rfl
set_option maxRecDepth 20000 in
theorem cw_X1_readPart : Cond.code yX1_readPart cX1_readPart 6 (some .boolean) ∈ tw := tin_4 (List.mem_of_getElem? (i := 147) rfl) rfl
set_option maxRecDepth 20000 in
theorem cw_X1_readSection : Cond.code yX1_readSection cX1_readSection 4 (some .boolean) ∈ tw := tin_4 (List.mem_of_getElem? (i := 113) rfl) rfl
set_option maxRecDepth 20000 in
theorem cw_X1_readTape : Cond.code yX1_readTape cX1_readTape 1 (some .boolean) ∈ tw := tin_4 (List.mem_of_getElem? (i := 87) rfl) rfl
set_option maxRecDepth 20000 in
theorem cw_X1_valueOf : Cond.code yX1_valueOf cX1_valueOf 5 (some .int) ∈ tw := tin_4 (List.mem_of_getElem? (i := 194) rfl) rfl
set_option maxRecDepth 20000 in
theorem cw_X1_work : Cond.code yX1_work cX1_work 5 none ∈ tw := tin_4 (List.mem_of_getElem? (i := 199) rfl) rfl
set_option maxRecDepth 20000 in
theorem cw_X1_write : Cond.code yX1_write cX1_write 2 none ∈ tw := tin_4 (List.mem_of_getElem? (i := 169) rfl) rfl
set_option maxRecDepth 20000 in
theorem cw_X2_branchOn : Cond.code yX2_branchOn cX2_branchOn 4 (some .int) ∈ tw := tin_2 (List.mem_of_getElem? (i := 176) rfl) rfl
set_option maxRecDepth 20000 in
theorem cw_X2_dayWage : Cond.code yX2_dayWage cX2_dayWage 1 (some .int) ∈ tw := tin_5 (List.mem_of_getElem? (i := 85) rfl) rfl
set_option maxRecDepth 20000 in
theorem cw_X2_goTo : Cond.code yX2_goTo cX2_goTo 3 (some .boolean) ∈ tw := tin_2 (List.mem_of_getElem? (i := 164) rfl) rfl
set_option maxRecDepth 20000 in
theorem cw_X2_hasLeft : Cond.code yX2_hasLeft cX2_hasLeft 1 (some .boolean) ∈ tw := tin_2 (List.mem_of_getElem? (i := 159) rfl) rfl
set_option maxRecDepth 20000 in
theorem cw_X2_init : Cond.code yX2_init cX2_init 6 none ∈ tw := tin_2 (List.mem_of_getElem? (i := 104) rfl) rfl
set_option maxRecDepth 20000 in
theorem cw_X2_lastBranch : Cond.code yX2_lastBranch cX2_lastBranch 1 (some .int) ∈ tw := tin_2 (List.mem_of_getElem? (i := 155) rfl) rfl
set_option maxRecDepth 20000 in
theorem cw_X3_addOne : Cond.code yX3_addOne cX3_addOne 2 none ∈ tw := tin_4 (List.mem_of_getElem? (i := 9) rfl) rfl
set_option maxRecDepth 20000 in
theorem cw_X3_clear : Cond.code yX3_clear cX3_clear 1 none ∈ tw := tin_4 (List.mem_of_getElem? (i := 0) rfl) rfl
set_option maxRecDepth 20000 in
theorem cw_X3_init : Cond.code yX3_init cX3_init 1 none ∈ tw := tin_1 (List.mem_of_getElem? (i := 183) rfl) rfl
set_option maxRecDepth 20000 in
theorem cw_X3_put : Cond.code yX3_put cX3_put 3 none ∈ tw := tin_4 (List.mem_of_getElem? (i := 20) rfl) rfl
set_option maxRecDepth 20000 in
theorem cw_X3_valueOf : Cond.code yX3_valueOf cX3_valueOf 2 (some .int) ∈ tw := tin_4 (List.mem_of_getElem? (i := 24) rfl) rfl
set_option maxRecDepth 20000 in
theorem cw_X4_init : Cond.code yX4_init cX4_init 4 none ∈ tw := tin_5 (List.mem_of_getElem? (i := 4) rfl) rfl
set_option maxRecDepth 20000 in
theorem cw_X5_addBranch : Cond.code yX5_addBranch cX5_addBranch 6 none ∈ tw := tin_4 (List.mem_of_getElem? (i := 54) rfl) rfl
set_option maxRecDepth 20000 in
theorem cw_X5_begin : Cond.code yX5_begin cX5_begin 1 none ∈ tw := tin_4 (List.mem_of_getElem? (i := 50) rfl) rfl
set_option maxRecDepth 20000 in
theorem cw_X5_gather : Cond.code yX5_gather cX5_gather 4 none ∈ tw := tin_4 (List.mem_of_getElem? (i := 37) rfl) rfl
set_option maxRecDepth 20000 in
theorem cw_X5_init : Cond.code yX5_init cX5_init 1 none ∈ tw := tin_1 (List.mem_of_getElem? (i := 100) rfl) rfl
set_option maxRecDepth 20000 in
theorem cw_X5_joinLastTwo : Cond.code yX5_joinLastTwo cX5_joinLastTwo 2 none ∈ tw := tin_4 (List.mem_of_getElem? (i := 63) rfl) rfl
set_option maxRecDepth 20000 in
theorem cw_X6_choose : Cond.code yX6_choose cX6_choose 7 none ∈ tw := tin_5 (List.mem_of_getElem? (i := 97) rfl) rfl
set_option maxRecDepth 20000 in
theorem cw_X6_compareRows : Cond.code yX6_compareRows cX6_compareRows 5 (some .int) ∈ tw := tin_5 (List.mem_of_getElem? (i := 127) rfl) rfl
set_option maxRecDepth 20000 in
theorem cw_X6_init : Cond.code yX6_init cX6_init 1 none ∈ tw := tin_1 (List.mem_of_getElem? (i := 195) rfl) rfl
set_option maxRecDepth 20000 in
theorem cw_X6_isTold : Cond.code yX6_isTold cX6_isTold 4 (some .boolean) ∈ tw := tin_5 (List.mem_of_getElem? (i := 131) rfl) rfl
set_option maxRecDepth 20000 in
theorem cw_X6_keepBetter : Cond.code yX6_keepBetter cX6_keepBetter 5 none ∈ tw := tin_5 (List.mem_of_getElem? (i := 101) rfl) rfl
set_option maxRecDepth 20000 in
theorem cw_X6_make : Cond.code yX6_make cX6_make 5 none ∈ tw := tin_5 (List.mem_of_getElem? (i := 93) rfl) rfl
set_option maxRecDepth 20000 in
theorem cw_X6_takeHarms : Cond.code yX6_takeHarms cX6_takeHarms 5 (some .int) ∈ tw := tin_5 (List.mem_of_getElem? (i := 59) rfl) rfl
set_option maxRecDepth 20000 in
theorem cw_X7_addLine : Cond.code yX7_addLine cX7_addLine 3 (some .int) ∈ tw := tin_2 (List.mem_of_getElem? (i := 197) rfl) rfl
set_option maxRecDepth 20000 in
theorem cw_X7_addLines : Cond.code yX7_addLines cX7_addLines 5 (some .int) ∈ tw := tin_2 (List.mem_of_getElem? (i := 216) rfl) rfl
set_option maxRecDepth 20000 in
theorem cw_X7_differingFigures : Cond.code yX7_differingFigures cX7_differingFigures 4 (some .int) ∈ tw := tin_3 (List.mem_of_getElem? (i := 7) rfl) rfl
set_option maxRecDepth 20000 in
theorem cw_X7_init : Cond.code yX7_init cX7_init 2 none ∈ tw := tin_1 (List.mem_of_getElem? (i := 68) rfl) rfl
set_option maxRecDepth 20000 in
theorem cw_X7_isFull : Cond.code yX7_isFull cX7_isFull 1 (some .boolean) ∈ tw := tin_2 (List.mem_of_getElem? (i := 193) rfl) rfl
set_option maxRecDepth 20000 in
theorem cw_X7_join : Cond.code yX7_join cX7_join 1 none ∈ tw := tin_2 (List.mem_of_getElem? (i := 230) rfl) rfl
set_option maxRecDepth 20000 in
theorem cw_X7_joinThoseWith : Cond.code yX7_joinThoseWith cX7_joinThoseWith 4 none ∈ tw := tin_2 (List.mem_of_getElem? (i := 238) rfl) rfl
set_option maxRecDepth 20000 in
theorem cw_X7_joinedLinesOf : Cond.code yX7_joinedLinesOf cX7_joinedLinesOf 6 (some .int) ∈ tw := tin_3 (List.mem_of_getElem? (i := 32) rfl) rfl
set_option maxRecDepth 20000 in
theorem cw_X7_linesOf : Cond.code yX7_linesOf cX7_linesOf 4 (some .int) ∈ tw := tin_3 (List.mem_of_getElem? (i := 28) rfl) rfl
set_option maxRecDepth 20000 in
theorem cw_X7_membersWithout : Cond.code yX7_membersWithout cX7_membersWithout 5 (some .int) ∈ tw := tin_3 (List.mem_of_getElem? (i := 36) rfl) rfl
set_option maxRecDepth 20000 in
theorem cw_X7_partnerFor : Cond.code yX7_partnerFor cX7_partnerFor 5 (some .int) ∈ tw := tin_3 (List.mem_of_getElem? (i := 2) rfl) rfl
set_option maxRecDepth 20000 in
theorem cw_X8_clearTo : Cond.code yX8_clearTo cX8_clearTo 2 none ∈ tw := tin_5 (List.mem_of_getElem? (i := 146) rfl) rfl
set_option maxRecDepth 20000 in
theorem cw_X8_hasPlaces : Cond.code yX8_hasPlaces cX8_hasPlaces 3 (some .boolean) ∈ tw := tin_5 (List.mem_of_getElem? (i := 162) rfl) rfl
set_option maxRecDepth 20000 in
theorem cw_X8_init : Cond.code yX8_init cX8_init 1 none ∈ tw := tin_1 (List.mem_of_getElem? (i := 237) rfl) rfl
set_option maxRecDepth 20000 in
theorem cw_X8_isMissing : Cond.code yX8_isMissing cX8_isMissing 1 (some .boolean) ∈ tw := tin_2 (List.mem_of_getElem? (i := 211) rfl) rfl
set_option maxRecDepth 20000 in
theorem cw_X9_addFour : Cond.code yX9_addFour cX9_addFour 3 none ∈ tw := tin_4 (List.mem_of_getElem? (i := 75) rfl) rfl
set_option maxRecDepth 20000 in
theorem cw_X9_byteAt : Cond.code yX9_byteAt cX9_byteAt 2 (some .int) ∈ tw := tin_4 (List.mem_of_getElem? (i := 99) rfl) rfl
set_option maxRecDepth 20000 in
theorem cw_X9_goOn : Cond.code yX9_goOn cX9_goOn 2 none ∈ tw := tin_4 (List.mem_of_getElem? (i := 95) rfl) rfl
set_option maxRecDepth 20000 in
theorem cw_X9_init : Cond.code yX9_init cX9_init 1 none ∈ tw := tin_1 (List.mem_of_getElem? (i := 127) rfl) rfl
set_option maxRecDepth 20000 in
theorem cw_X9_isAtEnd : Cond.code yX9_isAtEnd cX9_isAtEnd 1 (some .boolean) ∈ tw := tin_4 (List.mem_of_getElem? (i := 182) rfl) rfl
set_option maxRecDepth 20000 in
theorem cw_X9_isAtWord : Cond.code yX9_isAtWord cX9_isAtWord 3 (some .boolean) ∈ tw := tin_4 (List.mem_of_getElem? (i := 117) rfl) rfl
set_option maxRecDepth 20000 in
theorem cw_X9_isRow : Cond.code yX9_isRow cX9_isRow 1 (some .boolean) ∈ tw := tin_4 (List.mem_of_getElem? (i := 108) rfl) rfl
set_option maxRecDepth 20000 in
theorem cw_X9_letterAtHand : Cond.code yX9_letterAtHand cX9_letterAtHand 1 (some .char) ∈ tw := tin_4 (List.mem_of_getElem? (i := 155) rfl) rfl
set_option maxRecDepth 20000 in
theorem cw_X9_numberAtHand : Cond.code yX9_numberAtHand cX9_numberAtHand 3 (some .int) ∈ tw := tin_4 (List.mem_of_getElem? (i := 165) rfl) rfl
set_option maxRecDepth 20000 in
theorem cw_X9_rewind : Cond.code yX9_rewind cX9_rewind 1 none ∈ tw := tin_4 (List.mem_of_getElem? (i := 91) rfl) rfl
set_option maxRecDepth 20000 in
theorem cw_X9_signAtHand : Cond.code yX9_signAtHand cX9_signAtHand 1 (some .char) ∈ tw := tin_4 (List.mem_of_getElem? (i := 173) rfl) rfl
set_option maxRecDepth 20000 in
theorem cw_X9_sortAt : Cond.code yX9_sortAt cX9_sortAt 3 (some .int) ∈ tw := tin_4 (List.mem_of_getElem? (i := 103) rfl) rfl
end
theorem mcw_0 : ∀ q ∈ mdl_0, Cond.code q.1 q.2.1 q.2.2.1 q.2.2.2.1 ∈ tw := List.forall_mem_cons.mpr ⟨cw_J0_charAt_5068e, List.forall_mem_cons.mpr ⟨cw_J0_checkBoundsBeginEnd_23922, List.forall_mem_cons.mpr ⟨cw_J0_checkIndex_df160, List.forall_mem_cons.mpr ⟨cw_J0_coder_7d493, List.forall_mem_cons.mpr ⟨cw_J0_indexOf_0f7a4, List.forall_mem_cons.mpr ⟨cw_J0_indexOf_7cf53, List.forall_mem_cons.mpr ⟨cw_J0_isLatin1_aae02, List.forall_mem_cons.mpr ⟨cw_J0_length_8abf5, List.forall_mem_cons.mpr ⟨cw_J11_highSurrogate_5068e, List.forall_mem_cons.mpr ⟨cw_J11_isValidCodePoint_9a6ad, List.forall_mem_cons.mpr ⟨cw_J11_lowSurrogate_5068e, List.forall_mem_cons.mpr ⟨cw_J13_bitCount_95d88, List.forall_mem_cons.mpr ⟨cw_J1_canEncode_9a6ad, List.forall_mem_cons.mpr ⟨cw_J1_charAt_3b067, List.forall_mem_cons.mpr ⟨cw_J1_indexOfChar_4cfef, List.forall_mem_cons.mpr ⟨cw_J1_indexOf_4cfef, List.forall_mem_cons.mpr ⟨cw_J2_charAt_3b067, List.forall_mem_cons.mpr ⟨cw_J2_checkBoundsBeginEnd_d044e, List.forall_mem_cons.mpr ⟨cw_J2_checkIndex_2214a, List.forall_mem_cons.mpr ⟨cw_J2_getChar_3b067, List.forall_mem_cons.mpr ⟨cw_J2_indexOfCharUnsafe_4cfef, List.forall_mem_cons.mpr ⟨cw_J2_indexOfChar_4cfef, List.forall_mem_cons.mpr ⟨cw_J2_indexOfSupplementary_4cfef, List.forall_mem_cons.mpr ⟨cw_J2_indexOf_4cfef, List.forall_mem_cons.mpr ⟨cw_J2_length_9d52b, List.forall_mem_cons.mpr ⟨cw_J3_checkFromToIndex_8c36e, List.forall_mem_cons.mpr ⟨cw_J3_checkIndex_8e157, List.forall_mem_cons.mpr ⟨cw_J6_bitCount_0f7a4, List.forall_mem_cons.mpr ⟨cw_J7_fill_53178, List.forall_mem_cons.mpr ⟨cw_J7_fill_fb410, List.forall_mem_cons.mpr ⟨cw_X0_entitledOf, List.forall_mem_cons.mpr ⟨cw_X0_hasBranch, List.forall_mem_cons.mpr ⟨cw_X0_hasClosed, List.forall_mem_cons.mpr ⟨cw_X0_hasHeard, List.forall_mem_cons.mpr ⟨cw_X0_hasSent, List.forall_mem_cons.mpr ⟨cw_X0_hear, List.forall_mem_cons.mpr ⟨cw_X0_heardOf, List.forall_mem_cons.mpr ⟨cw_X0_init, List.forall_mem_cons.mpr ⟨cw_X0_post, List.forall_mem_cons.mpr ⟨cw_X0_postToMissed, fun _ h => absurd h List.not_mem_nil⟩⟩⟩⟩⟩⟩⟩⟩⟩⟩⟩⟩⟩⟩⟩⟩⟩⟩⟩⟩⟩⟩⟩⟩⟩⟩⟩⟩⟩⟩⟩⟩⟩⟩⟩⟩⟩⟩⟩⟩
theorem mdl_ok_0 : mdl_0.all ckD = true := by decide +kernel
theorem mcw_1 : ∀ q ∈ mdl_1, Cond.code q.1 q.2.1 q.2.2.1 q.2.2.2.1 ∈ tw := List.forall_mem_cons.mpr ⟨cw_X0_tellEntitled, List.forall_mem_cons.mpr ⟨cw_X0_tellNames, List.forall_mem_cons.mpr ⟨cw_X10_addBranch, List.forall_mem_cons.mpr ⟨cw_X10_addMember, List.forall_mem_cons.mpr ⟨cw_X10_branchOn, List.forall_mem_cons.mpr ⟨cw_X10_hasBranch, List.forall_mem_cons.mpr ⟨cw_X10_hasVital, List.forall_mem_cons.mpr ⟨cw_X10_init, List.forall_mem_cons.mpr ⟨cw_X10_isAmong, List.forall_mem_cons.mpr ⟨cw_X10_isBranchOf, List.forall_mem_cons.mpr ⟨cw_X10_isKind, List.forall_mem_cons.mpr ⟨cw_X10_memberAt, List.forall_mem_cons.mpr ⟨cw_X10_sizeOf, List.forall_mem_cons.mpr ⟨cw_X10_stayers, List.forall_mem_cons.mpr ⟨cw_X10_strikePay, List.forall_mem_cons.mpr ⟨cw_X10_strikesVital, List.forall_mem_cons.mpr ⟨cw_X10_wrongIn, List.forall_mem_cons.mpr ⟨cw_X11_about, List.forall_mem_cons.mpr ⟨cw_X11_back, List.forall_mem_cons.mpr ⟨cw_X11_ballotAt, List.forall_mem_cons.mpr ⟨cw_X11_branch, List.forall_mem_cons.mpr ⟨cw_X11_check, List.forall_mem_cons.mpr ⟨cw_X11_close, List.forall_mem_cons.mpr ⟨cw_X11_copy, List.forall_mem_cons.mpr ⟨cw_X11_cost, List.forall_mem_cons.mpr ⟨cw_X11_count, List.forall_mem_cons.mpr ⟨cw_X11_cure, List.forall_mem_cons.mpr ⟨cw_X11_dayOrNone, List.forall_mem_cons.mpr ⟨cw_X11_days, List.forall_mem_cons.mpr ⟨cw_X11_docked, List.forall_mem_cons.mpr ⟨cw_X11_feed, List.forall_mem_cons.mpr ⟨cw_X11_harm, List.forall_mem_cons.mpr ⟨cw_X11_holds, List.forall_mem_cons.mpr ⟨cw_X11_init, List.forall_mem_cons.mpr ⟨cw_X11_isHalfList, List.forall_mem_cons.mpr ⟨cw_X11_isKnownDay, List.forall_mem_cons.mpr ⟨cw_X11_isLetter, List.forall_mem_cons.mpr ⟨cw_X11_isLiving, List.forall_mem_cons.mpr ⟨cw_X11_isMark, List.forall_mem_cons.mpr ⟨cw_X11_isOf, fun _ h => absurd h List.not_mem_nil⟩⟩⟩⟩⟩⟩⟩⟩⟩⟩⟩⟩⟩⟩⟩⟩⟩⟩⟩⟩⟩⟩⟩⟩⟩⟩⟩⟩⟩⟩⟩⟩⟩⟩⟩⟩⟩⟩⟩⟩
theorem mdl_ok_1 : mdl_1.all ckD = true := by decide +kernel
theorem mcw_2 : ∀ q ∈ mdl_2, Cond.code q.1 q.2.1 q.2.2.1 q.2.2.2.1 ∈ tw := List.forall_mem_cons.mpr ⟨cw_X11_isStanding, List.forall_mem_cons.mpr ⟨cw_X11_isWithin, List.forall_mem_cons.mpr ⟨cw_X11_joined, List.forall_mem_cons.mpr ⟨cw_X11_law, List.forall_mem_cons.mpr ⟨cw_X11_lawFor, List.forall_mem_cons.mpr ⟨cw_X11_lay, List.forall_mem_cons.mpr ⟨cw_X11_leave, List.forall_mem_cons.mpr ⟨cw_X11_line, List.forall_mem_cons.mpr ⟨cw_X11_lives, List.forall_mem_cons.mpr ⟨cw_X11_makePlan, List.forall_mem_cons.mpr ⟨cw_X11_mark, List.forall_mem_cons.mpr ⟨cw_X11_member, List.forall_mem_cons.mpr ⟨cw_X11_move, List.forall_mem_cons.mpr ⟨cw_X11_name, List.forall_mem_cons.mpr ⟨cw_X11_notice, List.forall_mem_cons.mpr ⟨cw_X11_noticeAt, List.forall_mem_cons.mpr ⟨cw_X11_noticed, List.forall_mem_cons.mpr ⟨cw_X11_of, List.forall_mem_cons.mpr ⟨cw_X11_oneIf, List.forall_mem_cons.mpr ⟨cw_X11_open, List.forall_mem_cons.mpr ⟨cw_X11_parcel, List.forall_mem_cons.mpr ⟨cw_X11_parcels, List.forall_mem_cons.mpr ⟨cw_X11_plan, List.forall_mem_cons.mpr ⟨cw_X11_planned, List.forall_mem_cons.mpr ⟨cw_X11_roll, List.forall_mem_cons.mpr ⟨cw_X11_rolls, List.forall_mem_cons.mpr ⟨cw_X11_rule, List.forall_mem_cons.mpr ⟨cw_X11_says, List.forall_mem_cons.mpr ⟨cw_X11_send, List.forall_mem_cons.mpr ⟨cw_X11_sendAll, List.forall_mem_cons.mpr ⟨cw_X11_sheet, List.forall_mem_cons.mpr ⟨cw_X11_sheetAt, List.forall_mem_cons.mpr ⟨cw_X11_stands, List.forall_mem_cons.mpr ⟨cw_X11_tell, List.forall_mem_cons.mpr ⟨cw_X11_told, List.forall_mem_cons.mpr ⟨cw_X11_trim, List.forall_mem_cons.mpr ⟨cw_X11_wipe, List.forall_mem_cons.mpr ⟨cw_X12_about, List.forall_mem_cons.mpr ⟨cw_X12_adds, List.forall_mem_cons.mpr ⟨cw_X12_and, fun _ h => absurd h List.not_mem_nil⟩⟩⟩⟩⟩⟩⟩⟩⟩⟩⟩⟩⟩⟩⟩⟩⟩⟩⟩⟩⟩⟩⟩⟩⟩⟩⟩⟩⟩⟩⟩⟩⟩⟩⟩⟩⟩⟩⟩⟩
theorem mdl_ok_2 : mdl_2.all ckD = true := by decide +kernel
theorem mcw_3 : ∀ q ∈ mdl_3, Cond.code q.1 q.2.1 q.2.2.1 q.2.2.2.1 ∈ tw := List.forall_mem_cons.mpr ⟨cw_X12_at, List.forall_mem_cons.mpr ⟨cw_X12_back, List.forall_mem_cons.mpr ⟨cw_X12_bestDays, List.forall_mem_cons.mpr ⟨cw_X12_branch, List.forall_mem_cons.mpr ⟨cw_X12_branchOf, List.forall_mem_cons.mpr ⟨cw_X12_byteOf, List.forall_mem_cons.mpr ⟨cw_X12_canBe, List.forall_mem_cons.mpr ⟨cw_X12_check, List.forall_mem_cons.mpr ⟨cw_X12_close, List.forall_mem_cons.mpr ⟨cw_X12_copy, List.forall_mem_cons.mpr ⟨cw_X12_cost, List.forall_mem_cons.mpr ⟨cw_X12_costOf, List.forall_mem_cons.mpr ⟨cw_X12_count, List.forall_mem_cons.mpr ⟨cw_X12_cure, List.forall_mem_cons.mpr ⟨cw_X12_dayWage, List.forall_mem_cons.mpr ⟨cw_X12_days, List.forall_mem_cons.mpr ⟨cw_X12_docked, List.forall_mem_cons.mpr ⟨cw_X12_feed, List.forall_mem_cons.mpr ⟨cw_X12_figuresApart, List.forall_mem_cons.mpr ⟨cw_X12_fundBehind, List.forall_mem_cons.mpr ⟨cw_X12_gives, List.forall_mem_cons.mpr ⟨cw_X12_harm, List.forall_mem_cons.mpr ⟨cw_X12_harmOf, List.forall_mem_cons.mpr ⟨cw_X12_hasEntitled, List.forall_mem_cons.mpr ⟨cw_X12_holds, List.forall_mem_cons.mpr ⟨cw_X12_in, List.forall_mem_cons.mpr ⟨cw_X12_init, List.forall_mem_cons.mpr ⟨cw_X12_isBallot, List.forall_mem_cons.mpr ⟨cw_X12_isBranch, List.forall_mem_cons.mpr ⟨cw_X12_isDigit, List.forall_mem_cons.mpr ⟨cw_X12_isEntitled, List.forall_mem_cons.mpr ⟨cw_X12_isIn, List.forall_mem_cons.mpr ⟨cw_X12_isLetter, List.forall_mem_cons.mpr ⟨cw_X12_isList, List.forall_mem_cons.mpr ⟨cw_X12_isListed, List.forall_mem_cons.mpr ⟨cw_X12_isMember, List.forall_mem_cons.mpr ⟨cw_X12_isOf, List.forall_mem_cons.mpr ⟨cw_X12_isOfKind, List.forall_mem_cons.mpr ⟨cw_X12_isPlan, List.forall_mem_cons.mpr ⟨cw_X12_isSheet, fun _ h => absurd h List.not_mem_nil⟩⟩⟩⟩⟩⟩⟩⟩⟩⟩⟩⟩⟩⟩⟩⟩⟩⟩⟩⟩⟩⟩⟩⟩⟩⟩⟩⟩⟩⟩⟩⟩⟩⟩⟩⟩⟩⟩⟩⟩
theorem mdl_ok_3 : mdl_3.all ckD = true := by decide +kernel
theorem mcw_4 : ∀ q ∈ mdl_4, Cond.code q.1 q.2.1 q.2.2.1 q.2.2.2.1 ∈ tw := List.forall_mem_cons.mpr ⟨cw_X12_isSign, List.forall_mem_cons.mpr ⟨cw_X12_isTime, List.forall_mem_cons.mpr ⟨cw_X12_isVital, List.forall_mem_cons.mpr ⟨cw_X12_isWord, List.forall_mem_cons.mpr ⟨cw_X12_joined, List.forall_mem_cons.mpr ⟨cw_X12_joins, List.forall_mem_cons.mpr ⟨cw_X12_joinsAll, List.forall_mem_cons.mpr ⟨cw_X12_knows, List.forall_mem_cons.mpr ⟨cw_X12_law, List.forall_mem_cons.mpr ⟨cw_X12_lay, List.forall_mem_cons.mpr ⟨cw_X12_leave, List.forall_mem_cons.mpr ⟨cw_X12_line, List.forall_mem_cons.mpr ⟨cw_X12_lives, List.forall_mem_cons.mpr ⟨cw_X12_livesOn, List.forall_mem_cons.mpr ⟨cw_X12_many, List.forall_mem_cons.mpr ⟨cw_X12_mark, List.forall_mem_cons.mpr ⟨cw_X12_member, List.forall_mem_cons.mpr ⟨cw_X12_move, List.forall_mem_cons.mpr ⟨cw_X12_name, List.forall_mem_cons.mpr ⟨cw_X12_nameOf, List.forall_mem_cons.mpr ⟨cw_X12_next, List.forall_mem_cons.mpr ⟨cw_X12_notice, List.forall_mem_cons.mpr ⟨cw_X12_noticed, List.forall_mem_cons.mpr ⟨cw_X12_number, List.forall_mem_cons.mpr ⟨cw_X12_of, List.forall_mem_cons.mpr ⟨cw_X12_ofOn, List.forall_mem_cons.mpr ⟨cw_X12_one, List.forall_mem_cons.mpr ⟨cw_X12_open, List.forall_mem_cons.mpr ⟨cw_X12_or, List.forall_mem_cons.mpr ⟨cw_X12_papers, List.forall_mem_cons.mpr ⟨cw_X12_parcel, List.forall_mem_cons.mpr ⟨cw_X12_parcels, List.forall_mem_cons.mpr ⟨cw_X12_parts, List.forall_mem_cons.mpr ⟨cw_X12_plan, List.forall_mem_cons.mpr ⟨cw_X12_planned, List.forall_mem_cons.mpr ⟨cw_X12_reads, List.forall_mem_cons.mpr ⟨cw_X12_roll, List.forall_mem_cons.mpr ⟨cw_X12_rolls, List.forall_mem_cons.mpr ⟨cw_X12_rule, List.forall_mem_cons.mpr ⟨cw_X12_says, fun _ h => absurd h List.not_mem_nil⟩⟩⟩⟩⟩⟩⟩⟩⟩⟩⟩⟩⟩⟩⟩⟩⟩⟩⟩⟩⟩⟩⟩⟩⟩⟩⟩⟩⟩⟩⟩⟩⟩⟩⟩⟩⟩⟩⟩⟩
theorem mdl_ok_4 : mdl_4.all ckD = true := by decide +kernel
theorem mcw_5 : ∀ q ∈ mdl_5, Cond.code q.1 q.2.1 q.2.2.1 q.2.2.2.1 ∈ tw := List.forall_mem_cons.mpr ⟨cw_X12_saysOn, List.forall_mem_cons.mpr ⟨cw_X12_send, List.forall_mem_cons.mpr ⟨cw_X12_sendAll, List.forall_mem_cons.mpr ⟨cw_X12_sheet, List.forall_mem_cons.mpr ⟨cw_X12_stands, List.forall_mem_cons.mpr ⟨cw_X12_standsOn, List.forall_mem_cons.mpr ⟨cw_X12_sum, List.forall_mem_cons.mpr ⟨cw_X12_takes, List.forall_mem_cons.mpr ⟨cw_X12_tell, List.forall_mem_cons.mpr ⟨cw_X12_term, List.forall_mem_cons.mpr ⟨cw_X12_test, List.forall_mem_cons.mpr ⟨cw_X12_told, List.forall_mem_cons.mpr ⟨cw_X12_trim, List.forall_mem_cons.mpr ⟨cw_X12_wipe, List.forall_mem_cons.mpr ⟨cw_X1_apply, List.forall_mem_cons.mpr ⟨cw_X1_init, List.forall_mem_cons.mpr ⟨cw_X1_isBallotName, List.forall_mem_cons.mpr ⟨cw_X1_isNameHere, List.forall_mem_cons.mpr ⟨cw_X1_levelOf, List.forall_mem_cons.mpr ⟨cw_X1_operandAtHand, List.forall_mem_cons.mpr ⟨cw_X1_pop, List.forall_mem_cons.mpr ⟨cw_X1_push, List.forall_mem_cons.mpr ⟨cw_X1_readLevel, List.forall_mem_cons.mpr ⟨cw_X1_readPart, List.forall_mem_cons.mpr ⟨cw_X1_readSection, List.forall_mem_cons.mpr ⟨cw_X1_readTape, List.forall_mem_cons.mpr ⟨cw_X1_valueOf, List.forall_mem_cons.mpr ⟨cw_X1_work, List.forall_mem_cons.mpr ⟨cw_X1_write, List.forall_mem_cons.mpr ⟨cw_X2_branchOn, List.forall_mem_cons.mpr ⟨cw_X2_dayWage, List.forall_mem_cons.mpr ⟨cw_X2_goTo, List.forall_mem_cons.mpr ⟨cw_X2_hasLeft, List.forall_mem_cons.mpr ⟨cw_X2_init, List.forall_mem_cons.mpr ⟨cw_X2_lastBranch, List.forall_mem_cons.mpr ⟨cw_X3_addOne, List.forall_mem_cons.mpr ⟨cw_X3_clear, List.forall_mem_cons.mpr ⟨cw_X3_init, List.forall_mem_cons.mpr ⟨cw_X3_put, List.forall_mem_cons.mpr ⟨cw_X3_valueOf, fun _ h => absurd h List.not_mem_nil⟩⟩⟩⟩⟩⟩⟩⟩⟩⟩⟩⟩⟩⟩⟩⟩⟩⟩⟩⟩⟩⟩⟩⟩⟩⟩⟩⟩⟩⟩⟩⟩⟩⟩⟩⟩⟩⟩⟩⟩
theorem mdl_ok_5 : mdl_5.all ckD = true := by decide +kernel
theorem mcw_6 : ∀ q ∈ mdl_6, Cond.code q.1 q.2.1 q.2.2.1 q.2.2.2.1 ∈ tw := List.forall_mem_cons.mpr ⟨cw_X4_init, List.forall_mem_cons.mpr ⟨cw_X5_addBranch, List.forall_mem_cons.mpr ⟨cw_X5_begin, List.forall_mem_cons.mpr ⟨cw_X5_gather, List.forall_mem_cons.mpr ⟨cw_X5_init, List.forall_mem_cons.mpr ⟨cw_X5_joinLastTwo, List.forall_mem_cons.mpr ⟨cw_X6_choose, List.forall_mem_cons.mpr ⟨cw_X6_compareRows, List.forall_mem_cons.mpr ⟨cw_X6_init, List.forall_mem_cons.mpr ⟨cw_X6_isTold, List.forall_mem_cons.mpr ⟨cw_X6_keepBetter, List.forall_mem_cons.mpr ⟨cw_X6_make, List.forall_mem_cons.mpr ⟨cw_X6_takeHarms, List.forall_mem_cons.mpr ⟨cw_X7_addLine, List.forall_mem_cons.mpr ⟨cw_X7_addLines, List.forall_mem_cons.mpr ⟨cw_X7_differingFigures, List.forall_mem_cons.mpr ⟨cw_X7_init, List.forall_mem_cons.mpr ⟨cw_X7_isFull, List.forall_mem_cons.mpr ⟨cw_X7_join, List.forall_mem_cons.mpr ⟨cw_X7_joinThoseWith, List.forall_mem_cons.mpr ⟨cw_X7_joinedLinesOf, List.forall_mem_cons.mpr ⟨cw_X7_linesOf, List.forall_mem_cons.mpr ⟨cw_X7_membersWithout, List.forall_mem_cons.mpr ⟨cw_X7_partnerFor, List.forall_mem_cons.mpr ⟨cw_X8_clearTo, List.forall_mem_cons.mpr ⟨cw_X8_hasPlaces, List.forall_mem_cons.mpr ⟨cw_X8_init, List.forall_mem_cons.mpr ⟨cw_X8_isMissing, List.forall_mem_cons.mpr ⟨cw_X9_addFour, List.forall_mem_cons.mpr ⟨cw_X9_byteAt, List.forall_mem_cons.mpr ⟨cw_X9_goOn, List.forall_mem_cons.mpr ⟨cw_X9_init, List.forall_mem_cons.mpr ⟨cw_X9_isAtEnd, List.forall_mem_cons.mpr ⟨cw_X9_isAtWord, List.forall_mem_cons.mpr ⟨cw_X9_isRow, List.forall_mem_cons.mpr ⟨cw_X9_letterAtHand, List.forall_mem_cons.mpr ⟨cw_X9_numberAtHand, List.forall_mem_cons.mpr ⟨cw_X9_rewind, List.forall_mem_cons.mpr ⟨cw_X9_signAtHand, List.forall_mem_cons.mpr ⟨cw_X9_sortAt, fun _ h => absurd h List.not_mem_nil⟩⟩⟩⟩⟩⟩⟩⟩⟩⟩⟩⟩⟩⟩⟩⟩⟩⟩⟩⟩⟩⟩⟩⟩⟩⟩⟩⟩⟩⟩⟩⟩⟩⟩⟩⟩⟩⟩⟩⟩
theorem mdl_ok_6 : mdl_6.all ckD = true := by decide +kernel
theorem mcw : ∀ q ∈ mdl, Cond.code q.1 q.2.1 q.2.2.1 q.2.2.2.1 ∈ tw := List.forall_mem_append.mpr ⟨mcw_0, List.forall_mem_append.mpr ⟨mcw_1, List.forall_mem_append.mpr ⟨mcw_2, List.forall_mem_append.mpr ⟨mcw_3, List.forall_mem_append.mpr ⟨mcw_4, List.forall_mem_append.mpr ⟨mcw_5, mcw_6⟩⟩⟩⟩⟩⟩
theorem mdl_ok : ∀ q ∈ mdl, ckD q = true := List.forall_mem_append.mpr ⟨fun q h => List.all_eq_true.mp mdl_ok_0 q h, List.forall_mem_append.mpr ⟨fun q h => List.all_eq_true.mp mdl_ok_1 q h, List.forall_mem_append.mpr ⟨fun q h => List.all_eq_true.mp mdl_ok_2 q h, List.forall_mem_append.mpr ⟨fun q h => List.all_eq_true.mp mdl_ok_3 q h, List.forall_mem_append.mpr ⟨fun q h => List.all_eq_true.mp mdl_ok_4 q h, List.forall_mem_append.mpr ⟨fun q h => List.all_eq_true.mp mdl_ok_5 q h, fun q h => List.all_eq_true.mp mdl_ok_6 q h⟩⟩⟩⟩⟩⟩