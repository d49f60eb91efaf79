/-! The cases of the law, and its own steps -/
theorem kc_trim : ckop 947 1 110 113 117 214 866 1579 = true := by decide +kernel
theorem kc_law : ckop 970 0 114 117 85 170 870 1583 = true := by decide +kernel
theorem kc_says : ckop 983 3 118 121 109 201 973 1650 = true := by decide +kernel
theorem kc_stands : ckop 1026 2 122 125 114 206 1003 1662 = true := by decide +kernel
theorem kc_lives : ckop 1059 2 126 129 90 174 1011 1670 = true := by decide +kernel
theorem kc_cure : ckop 1092 1 130 133 68 135 1019 1678 = true := by decide +kernel
theorem kc_notice : ckop 1115 4 134 137 96 183 1024 1682 = true := by decide +kernel
theorem kc_noticed : ckop 1168 2 138 141 98 184 1066 1693 = true := by decide +kernel
theorem kc_holds : ckop 1201 1 142 145 74 146 1074 1697 = true := by decide +kernel
theorem kc_harm : ckop 1224 2 146 149 73 143 1078 1701 = true := by decide +kernel
theorem kc_lay : ckop 1257 1 150 153 87 171 1082 1705 = true := by decide +kernel
theorem kc_rule : ckop 1280 2 154 157 108 200 1092 1709 = true := by decide +kernel
theorem kc_plan : ckop 1313 2 158 161 104 195 1100 1725 = true := by decide +kernel
theorem kc_planned : ckop 1346 2 162 165 105 196 1138 1756 = true := by decide +kernel
theorem kc_cost : ckop 1379 1 166 169 66 132 1142 1713 = true := by decide +kernel
theorem kc_tell : ckop 1402 1 170 173 115 210 1146 1760 = true := by decide +kernel
theorem kc_check : ckop 1425 2 174 177 63 129 1150 1764 = true := by decide +kernel
theorem kc_docked : ckop 1458 2 178 181 71 138 1162 1768 = true := by decide +kernel
theorem kc_sheet : ckop 1491 2 182 185 112 205 1168 1772 = true := by decide +kernel
theorem kc_mark : ckop 1524 3 186 189 92 177 1180 1777 = true := by decide +kernel
theorem kc_copy : ckop 1567 5 190 194 65 131 1185 1782 = true := by decide +kernel
theorem kc_count : ckop 1630 1 195 198 67 134 1196 1786 = true := by decide +kernel
theorem dl_0 : decode code 0 = .ok (.new 7, 3) := by decide +kernel
theorem dl_3 : decode code 3 = .ok (.dup, 1) := by decide +kernel
theorem dl_4 : decode code 4 = .ok (.invokespecial 9, 3) := by decide +kernel
theorem dl_7 : decode code 7 = .ok (.astore_n 1, 1) := by decide +kernel
theorem dl_8 : decode code 8 = .ok (.new 10, 3) := by decide +kernel
theorem dl_11 : decode code 11 = .ok (.dup, 1) := by decide +kernel
theorem dl_12 : decode code 12 = .ok (.invokespecial 12, 3) := by decide +kernel
theorem dl_15 : decode code 15 = .ok (.astore_n 2, 1) := by decide +kernel
theorem dl_16 : decode code 16 = .ok (.iconst 0, 1) := by decide +kernel
theorem dl_17 : decode code 17 = .ok (.istore_n 3, 1) := by decide +kernel
theorem dl_18 : decode code 18 = .ok (.iload_n 3, 1) := by decide +kernel
theorem dl_19 : decode code 19 = .ok (.aload_n 0, 1) := by decide +kernel
theorem dl_20 : decode code 20 = .ok (.arraylength, 1) := by decide +kernel
theorem dl_21 : decode code 21 = .ok (.bipush 6, 2) := by decide +kernel
theorem dl_23 : decode code 23 = .ok (.isub, 1) := by decide +kernel
theorem dl_24 : decode code 24 = .ok (.if_icmp .gt 1635, 3) := by decide +kernel
theorem dl_27 : decode code 27 = .ok (.aload_n 0, 1) := by decide +kernel
theorem dl_28 : decode code 28 = .ok (.iload_n 3, 1) := by decide +kernel
theorem dl_29 : decode code 29 = .ok (.iaload, 1) := by decide +kernel
theorem dl_30 : decode code 30 = .ok (.bipush 63, 2) := by decide +kernel
theorem dl_32 : decode code 32 = .ok (.iand, 1) := by decide +kernel
theorem dl_1653 : decode code 1653 = .ok (.iinc 3 6, 3) := by decide +kernel
theorem dl_1656 : decode code 1656 = .ok (.goto (-1638), 3) := by decide +kernel
theorem dl_1659 : decode code 1659 = .ok (.iconst 1, 1) := by decide +kernel
theorem dl_1660 : decode code 1660 = .ok (.ireturn, 1) := by decide +kernel
def swo : Array Int := #[195, 218, 251, 304, 337, 360, 393, 426, 459, 492, 505, 528, 561, 584, 607, 640, 663, 706, 729, 772, 805, 828, 871, 914, 937, 950, 993, 1026, 1059, 1082, 1135, 1168, 1191, 1224, 1247, 1280, 1313, 1346, 1369, 1392, 1425, 1458, 1491, 1534, 1597]
theorem dl_33 : decode code 33 = .ok (.tableswitch 1620 0 44 swo, 195) := by decide +kernel
