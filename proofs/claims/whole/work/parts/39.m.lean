def tt_X12_parts (pc : Nat) : TI := bif Nat.blt pc 119 then (bif Nat.blt pc 58 then (bif Nat.blt pc 27 then (bif Nat.blt pc 14 then (bif Nat.blt pc 5 then (bif Nat.blt pc 2 then (bif Nat.blt pc 1 then (bif Nat.beq pc 0 then (.iconst 0, 1, (0, 0, 0), 0, 0, []) else TN) else (bif Nat.beq pc 1 then (.istore_n 2, 2, (2, 0, 0), 0, 0, []) else TN)) else (bif Nat.blt pc 3 then (bif Nat.beq pc 2 then (.iload_n 2, 3, (2, 0, 0), 0, 0, []) else TN) else (bif Nat.beq pc 3 then (.bipush 6, 5, (0, 0, 0), 6, 0, []) else TN))) else (bif Nat.blt pc 9 then (bif Nat.blt pc 8 then (bif Nat.beq pc 5 then (.if_icmp .ge 37, 8, (42, 0, 0), 0, 0, []) else TN) else (bif Nat.beq pc 8 then (.aload_n 0, 9, (0, 0, 0), 0, 0, []) else TN)) else (bif Nat.blt pc 12 then (bif Nat.beq pc 9 then (.getfield 121, 12, (12, 48, 0), 0, 0, []) else TN) else (bif Nat.blt pc 13 then (bif Nat.beq pc 12 then (.iload_n 2, 13, (2, 0, 0), 0, 0, []) else TN) else (bif Nat.beq pc 13 then (.iconst 0, 14, (0, 0, 0), 0, 0, []) else TN))))) else (bif Nat.blt pc 20 then (bif Nat.blt pc 16 then (bif Nat.blt pc 15 then (bif Nat.beq pc 14 then (.iastore, 15, (0, 0, 0), 0, 0, []) else TN) else (bif Nat.beq pc 15 then (.aload_n 0, 16, (0, 0, 0), 0, 0, []) else TN)) else (bif Nat.blt pc 19 then (bif Nat.beq pc 16 then (.getfield 124, 19, (12, 49, 0), 0, 0, []) else TN) else (bif Nat.beq pc 19 then (.iload_n 2, 20, (2, 0, 0), 0, 0, []) else TN))) else (bif Nat.blt pc 22 then (bif Nat.blt pc 21 then (bif Nat.beq pc 20 then (.iconst 0, 21, (0, 0, 0), 0, 0, []) else TN) else (bif Nat.beq pc 21 then (.iastore, 22, (0, 0, 0), 0, 0, []) else TN)) else (bif Nat.blt pc 23 then (bif Nat.beq pc 22 then (.aload_n 0, 23, (0, 0, 0), 0, 0, []) else TN) else (bif Nat.blt pc 26 then (bif Nat.beq pc 23 then (.getfield 127, 26, (12, 50, 0), 0, 0, []) else TN) else (bif Nat.beq pc 26 then (.iload_n 2, 27, (2, 0, 0), 0, 0, []) else TN)))))) else (bif Nat.blt pc 42 then (bif Nat.blt pc 33 then (bif Nat.blt pc 29 then (bif Nat.blt pc 28 then (bif Nat.beq pc 27 then (.iconst 0, 28, (0, 0, 0), 0, 0, []) else TN) else (bif Nat.beq pc 28 then (.iastore, 29, (0, 0, 0), 0, 0, []) else TN)) else (bif Nat.blt pc 30 then (bif Nat.beq pc 29 then (.aload_n 0, 30, (0, 0, 0), 0, 0, []) else TN) else (bif Nat.beq pc 30 then (.getfield 130, 33, (12, 51, 0), 0, 0, []) else TN))) else (bif Nat.blt pc 35 then (bif Nat.blt pc 34 then (bif Nat.beq pc 33 then (.iload_n 2, 34, (2, 0, 0), 0, 0, []) else TN) else (bif Nat.beq pc 34 then (.iconst 0, 35, (0, 0, 0), 0, 0, []) else TN)) else (bif Nat.blt pc 36 then (bif Nat.beq pc 35 then (.iastore, 36, (0, 0, 0), 0, 0, []) else TN) else (bif Nat.blt pc 39 then (bif Nat.beq pc 36 then (.iinc 2 1, 39, (2, 0, 0), 1, 0, []) else TN) else (bif Nat.beq pc 39 then (.goto (-37), 42, (2, 0, 0), 0, 0, []) else TN))))) else (bif Nat.blt pc 47 then (bif Nat.blt pc 44 then (bif Nat.blt pc 43 then (bif Nat.beq pc 42 then (.iconst 0, 43, (0, 0, 0), 0, 0, []) else TN) else (bif Nat.beq pc 43 then (.istore_n 2, 44, (2, 0, 0), 0, 0, []) else TN)) else (bif Nat.blt pc 45 then (bif Nat.beq pc 44 then (.iconst 0, 45, (0, 0, 0), 0, 0, []) else TN) else (bif Nat.blt pc 46 then (bif Nat.beq pc 45 then (.istore_n 3, 46, (3, 0, 0), 0, 0, []) else TN) else (bif Nat.beq pc 46 then (.iload_n 3, 47, (3, 0, 0), 0, 0, []) else TN)))) else (bif Nat.blt pc 51 then (bif Nat.blt pc 48 then (bif Nat.beq pc 47 then (.aload_n 0, 48, (0, 0, 0), 0, 0, []) else TN) else (bif Nat.beq pc 48 then (.getfield 143, 51, (12, 2, 0), 0, 0, []) else TN)) else (bif Nat.blt pc 54 then (bif Nat.beq pc 51 then (.if_icmp .ge 62, 54, (113, 0, 0), 0, 0, []) else TN) else (bif Nat.blt pc 55 then (bif Nat.beq pc 54 then (.aload_n 0, 55, (0, 0, 0), 0, 0, []) else TN) else (bif Nat.beq pc 55 then (.getfield 43, 58, (12, 17, 0), 0, 0, []) else TN))))))) else (bif Nat.blt pc 85 then (bif Nat.blt pc 69 then (bif Nat.blt pc 62 then (bif Nat.blt pc 60 then (bif Nat.blt pc 59 then (bif Nat.beq pc 58 then (.iload_n 1, 59, (1, 0, 0), 0, 0, []) else TN) else (bif Nat.beq pc 59 then (.iaload, 60, (0, 0, 0), 0, 0, []) else TN)) else (bif Nat.blt pc 61 then (bif Nat.beq pc 60 then (.iload_n 3, 61, (3, 0, 0), 0, 0, []) else TN) else (bif Nat.beq pc 61 then (.ishr, 62, (0, 0, 0), 0, 0, []) else TN))) else (bif Nat.blt pc 64 then (bif Nat.blt pc 63 then (bif Nat.beq pc 62 then (.iconst 1, 63, (0, 0, 0), 1, 0, []) else TN) else (bif Nat.beq pc 63 then (.iand, 64, (0, 0, 0), 0, 0, []) else TN)) else (bif Nat.blt pc 65 then (bif Nat.beq pc 64 then (.iconst 1, 65, (0, 0, 0), 1, 0, []) else TN) else (bif Nat.blt pc 68 then (bif Nat.beq pc 65 then (.if_icmp .ne 42, 68, (107, 0, 0), 0, 0, []) else TN) else (bif Nat.beq pc 68 then (.aload_n 0, 69, (0, 0, 0), 0, 0, []) else TN))))) else (bif Nat.blt pc 78 then (bif Nat.blt pc 71 then (bif Nat.blt pc 70 then (bif Nat.beq pc 69 then (.iload_n 1, 70, (1, 0, 0), 0, 0, []) else TN) else (bif Nat.beq pc 70 then (.iload_n 3, 71, (3, 0, 0), 0, 0, []) else TN)) else (bif Nat.blt pc 74 then (bif Nat.beq pc 71 then (.invokevirtual 224, 74, (145, 2, 12), 0, 0, []) else TN) else (bif Nat.blt pc 77 then (bif Nat.beq pc 74 then (.ifCond .eq 33, 77, (107, 0, 0), 0, 0, []) else TN) else (bif Nat.beq pc 77 then (.aload_n 0, 78, (0, 0, 0), 0, 0, []) else TN)))) else (bif Nat.blt pc 80 then (bif Nat.blt pc 79 then (bif Nat.beq pc 78 then (.iload_n 1, 79, (1, 0, 0), 0, 0, []) else TN) else (bif Nat.beq pc 79 then (.iload_n 3, 80, (3, 0, 0), 0, 0, []) else TN)) else (bif Nat.blt pc 81 then (bif Nat.beq pc 80 then (.iload_n 2, 81, (2, 0, 0), 0, 0, []) else TN) else (bif Nat.blt pc 84 then (bif Nat.beq pc 81 then (.invokevirtual 227, 84, (120, 3, 12), 0, 0, []) else TN) else (bif Nat.beq pc 84 then (.iload_n 2, 85, (2, 0, 0), 0, 0, []) else TN)))))) else (bif Nat.blt pc 100 then (bif Nat.blt pc 91 then (bif Nat.blt pc 89 then (bif Nat.blt pc 86 then (bif Nat.beq pc 85 then (.aload_n 0, 86, (0, 0, 0), 0, 0, []) else TN) else (bif Nat.beq pc 86 then (.getfield 124, 89, (12, 49, 0), 0, 0, []) else TN)) else (bif Nat.blt pc 90 then (bif Nat.beq pc 89 then (.iload_n 2, 90, (2, 0, 0), 0, 0, []) else TN) else (bif Nat.beq pc 90 then (.iaload, 91, (0, 0, 0), 0, 0, []) else TN))) else (bif Nat.blt pc 95 then (bif Nat.blt pc 92 then (bif Nat.beq pc 91 then (.aload_n 0, 92, (0, 0, 0), 0, 0, []) else TN) else (bif Nat.beq pc 92 then (.getfield 88, 95, (12, 36, 0), 0, 0, []) else TN)) else (bif Nat.blt pc 96 then (bif Nat.beq pc 95 then (.iconst 4, 96, (0, 0, 0), 4, 0, []) else TN) else (bif Nat.blt pc 97 then (bif Nat.beq pc 96 then (.iaload, 97, (0, 0, 0), 0, 0, []) else TN) else (bif Nat.beq pc 97 then (.if_icmp .lt 7, 100, (104, 0, 0), 0, 0, []) else TN))))) else (bif Nat.blt pc 107 then (bif Nat.blt pc 104 then (bif Nat.blt pc 101 then (bif Nat.beq pc 100 then (.iconst 1, 101, (0, 0, 0), 1, 0, []) else TN) else (bif Nat.beq pc 101 then (.goto 4, 104, (105, 0, 0), 0, 0, []) else TN)) else (bif Nat.blt pc 105 then (bif Nat.beq pc 104 then (.iconst 0, 105, (0, 0, 0), 0, 0, []) else TN) else (bif Nat.blt pc 106 then (bif Nat.beq pc 105 then (.iadd, 106, (0, 0, 0), 0, 0, []) else TN) else (bif Nat.beq pc 106 then (.istore_n 2, 107, (2, 0, 0), 0, 0, []) else TN)))) else (bif Nat.blt pc 113 then (bif Nat.blt pc 110 then (bif Nat.beq pc 107 then (.iinc 3 1, 110, (3, 0, 0), 1, 0, []) else TN) else (bif Nat.beq pc 110 then (.goto (-64), 113, (46, 0, 0), 0, 0, []) else TN)) else (bif Nat.blt pc 114 then (bif Nat.beq pc 113 then (.iload_n 2, 114, (2, 0, 0), 0, 0, []) else TN) else (bif Nat.blt pc 116 then (bif Nat.beq pc 114 then (.bipush 6, 116, (0, 0, 0), 6, 0, []) else TN) else (bif Nat.beq pc 116 then (.if_icmp .ge 16, 119, (132, 0, 0), 0, 0, []) else TN)))))))) else (bif Nat.blt pc 174 then (bif Nat.blt pc 149 then (bif Nat.blt pc 134 then (bif Nat.blt pc 125 then (bif Nat.blt pc 123 then (bif Nat.blt pc 120 then (bif Nat.beq pc 119 then (.aload_n 0, 120, (0, 0, 0), 0, 0, []) else TN) else (bif Nat.beq pc 120 then (.getfield 121, 123, (12, 48, 0), 0, 0, []) else TN)) else (bif Nat.blt pc 124 then (bif Nat.beq pc 123 then (.iload_n 2, 124, (2, 0, 0), 0, 0, []) else TN) else (bif Nat.beq pc 124 then (.iaload, 125, (0, 0, 0), 0, 0, []) else TN))) else (bif Nat.blt pc 129 then (bif Nat.blt pc 128 then (bif Nat.beq pc 125 then (.ifCond .eq 7, 128, (132, 0, 0), 0, 0, []) else TN) else (bif Nat.beq pc 128 then (.iconst 1, 129, (0, 0, 0), 1, 0, []) else TN)) else (bif Nat.blt pc 132 then (bif Nat.beq pc 129 then (.goto 4, 132, (133, 0, 0), 0, 0, []) else TN) else (bif Nat.blt pc 133 then (bif Nat.beq pc 132 then (.iconst 0, 133, (0, 0, 0), 0, 0, []) else TN) else (bif Nat.beq pc 133 then (.istore_n 3, 134, (3, 0, 0), 0, 0, []) else TN))))) else (bif Nat.blt pc 142 then (bif Nat.blt pc 138 then (bif Nat.blt pc 135 then (bif Nat.beq pc 134 then (.iload_n 3, 135, (3, 0, 0), 0, 0, []) else TN) else (bif Nat.beq pc 135 then (.ifCond .eq 75, 138, (210, 0, 0), 0, 0, []) else TN)) else (bif Nat.blt pc 139 then (bif Nat.beq pc 138 then (.iload_n 2, 139, (2, 0, 0), 0, 0, []) else TN) else (bif Nat.beq pc 139 then (.ifCond .le 71, 142, (210, 0, 0), 0, 0, []) else TN))) else (bif Nat.blt pc 146 then (bif Nat.blt pc 143 then (bif Nat.beq pc 142 then (.aload_n 0, 143, (0, 0, 0), 0, 0, []) else TN) else (bif Nat.beq pc 143 then (.getfield 121, 146, (12, 48, 0), 0, 0, []) else TN)) else (bif Nat.blt pc 147 then (bif Nat.beq pc 146 then (.iload_n 2, 147, (2, 0, 0), 0, 0, []) else TN) else (bif Nat.blt pc 148 then (bif Nat.beq pc 147 then (.iconst 1, 148, (0, 0, 0), 1, 0, []) else TN) else (bif Nat.beq pc 148 then (.isub, 149, (0, 0, 0), 0, 0, []) else TN)))))) else (bif Nat.blt pc 160 then (bif Nat.blt pc 155 then (bif Nat.blt pc 151 then (bif Nat.blt pc 150 then (bif Nat.beq pc 149 then (.dup2, 150, (0, 0, 0), 0, 0, []) else TN) else (bif Nat.beq pc 150 then (.iaload, 151, (0, 0, 0), 0, 0, []) else TN)) else (bif Nat.blt pc 152 then (bif Nat.beq pc 151 then (.aload_n 0, 152, (0, 0, 0), 0, 0, []) else TN) else (bif Nat.beq pc 152 then (.getfield 121, 155, (12, 48, 0), 0, 0, []) else TN))) else (bif Nat.blt pc 157 then (bif Nat.blt pc 156 then (bif Nat.beq pc 155 then (.iload_n 2, 156, (2, 0, 0), 0, 0, []) else TN) else (bif Nat.beq pc 156 then (.iaload, 157, (0, 0, 0), 0, 0, []) else TN)) else (bif Nat.blt pc 158 then (bif Nat.beq pc 157 then (.ior, 158, (0, 0, 0), 0, 0, []) else TN) else (bif Nat.blt pc 159 then (bif Nat.beq pc 158 then (.iastore, 159, (0, 0, 0), 0, 0, []) else TN) else (bif Nat.beq pc 159 then (.aload_n 0, 160, (0, 0, 0), 0, 0, []) else TN))))) else (bif Nat.blt pc 167 then (bif Nat.blt pc 164 then (bif Nat.blt pc 163 then (bif Nat.beq pc 160 then (.getfield 124, 163, (12, 49, 0), 0, 0, []) else TN) else (bif Nat.beq pc 163 then (.iload_n 2, 164, (2, 0, 0), 0, 0, []) else TN)) else (bif Nat.blt pc 165 then (bif Nat.beq pc 164 then (.iconst 1, 165, (0, 0, 0), 1, 0, []) else TN) else (bif Nat.blt pc 166 then (bif Nat.beq pc 165 then (.isub, 166, (0, 0, 0), 0, 0, []) else TN) else (bif Nat.beq pc 166 then (.dup2, 167, (0, 0, 0), 0, 0, []) else TN)))) else (bif Nat.blt pc 169 then (bif Nat.blt pc 168 then (bif Nat.beq pc 167 then (.iaload, 168, (0, 0, 0), 0, 0, []) else TN) else (bif Nat.beq pc 168 then (.aload_n 0, 169, (0, 0, 0), 0, 0, []) else TN)) else (bif Nat.blt pc 172 then (bif Nat.beq pc 169 then (.getfield 124, 172, (12, 49, 0), 0, 0, []) else TN) else (bif Nat.blt pc 173 then (bif Nat.beq pc 172 then (.iload_n 2, 173, (2, 0, 0), 0, 0, []) else TN) else (bif Nat.beq pc 173 then (.iaload, 174, (0, 0, 0), 0, 0, []) else TN))))))) else (bif Nat.blt pc 199 then (bif Nat.blt pc 185 then (bif Nat.blt pc 180 then (bif Nat.blt pc 176 then (bif Nat.blt pc 175 then (bif Nat.beq pc 174 then (.iadd, 175, (0, 0, 0), 0, 0, []) else TN) else (bif Nat.beq pc 175 then (.iastore, 176, (0, 0, 0), 0, 0, []) else TN)) else (bif Nat.blt pc 177 then (bif Nat.beq pc 176 then (.aload_n 0, 177, (0, 0, 0), 0, 0, []) else TN) else (bif Nat.beq pc 177 then (.getfield 127, 180, (12, 50, 0), 0, 0, []) else TN))) else (bif Nat.blt pc 182 then (bif Nat.blt pc 181 then (bif Nat.beq pc 180 then (.iload_n 2, 181, (2, 0, 0), 0, 0, []) else TN) else (bif Nat.beq pc 181 then (.iconst 1, 182, (0, 0, 0), 1, 0, []) else TN)) else (bif Nat.blt pc 183 then (bif Nat.beq pc 182 then (.isub, 183, (0, 0, 0), 0, 0, []) else TN) else (bif Nat.blt pc 184 then (bif Nat.beq pc 183 then (.dup2, 184, (0, 0, 0), 0, 0, []) else TN) else (bif Nat.beq pc 184 then (.iaload, 185, (0, 0, 0), 0, 0, []) else TN))))) else (bif Nat.blt pc 192 then (bif Nat.blt pc 189 then (bif Nat.blt pc 186 then (bif Nat.beq pc 185 then (.aload_n 0, 186, (0, 0, 0), 0, 0, []) else TN) else (bif Nat.beq pc 186 then (.getfield 127, 189, (12, 50, 0), 0, 0, []) else TN)) else (bif Nat.blt pc 190 then (bif Nat.beq pc 189 then (.iload_n 2, 190, (2, 0, 0), 0, 0, []) else TN) else (bif Nat.blt pc 191 then (bif Nat.beq pc 190 then (.iaload, 191, (0, 0, 0), 0, 0, []) else TN) else (bif Nat.beq pc 191 then (.iadd, 192, (0, 0, 0), 0, 0, []) else TN)))) else (bif Nat.blt pc 194 then (bif Nat.blt pc 193 then (bif Nat.beq pc 192 then (.iastore, 193, (0, 0, 0), 0, 0, []) else TN) else (bif Nat.beq pc 193 then (.aload_n 0, 194, (0, 0, 0), 0, 0, []) else TN)) else (bif Nat.blt pc 197 then (bif Nat.beq pc 194 then (.getfield 130, 197, (12, 51, 0), 0, 0, []) else TN) else (bif Nat.blt pc 198 then (bif Nat.beq pc 197 then (.iload_n 2, 198, (2, 0, 0), 0, 0, []) else TN) else (bif Nat.beq pc 198 then (.iconst 1, 199, (0, 0, 0), 1, 0, []) else TN)))))) else (bif Nat.blt pc 210 then (bif Nat.blt pc 203 then (bif Nat.blt pc 201 then (bif Nat.blt pc 200 then (bif Nat.beq pc 199 then (.isub, 200, (0, 0, 0), 0, 0, []) else TN) else (bif Nat.beq pc 200 then (.dup2, 201, (0, 0, 0), 0, 0, []) else TN)) else (bif Nat.blt pc 202 then (bif Nat.beq pc 201 then (.iaload, 202, (0, 0, 0), 0, 0, []) else TN) else (bif Nat.beq pc 202 then (.aload_n 0, 203, (0, 0, 0), 0, 0, []) else TN))) else (bif Nat.blt pc 207 then (bif Nat.blt pc 206 then (bif Nat.beq pc 203 then (.getfield 130, 206, (12, 51, 0), 0, 0, []) else TN) else (bif Nat.beq pc 206 then (.iload_n 2, 207, (2, 0, 0), 0, 0, []) else TN)) else (bif Nat.blt pc 208 then (bif Nat.beq pc 207 then (.iaload, 208, (0, 0, 0), 0, 0, []) else TN) else (bif Nat.blt pc 209 then (bif Nat.beq pc 208 then (.iadd, 209, (0, 0, 0), 0, 0, []) else TN) else (bif Nat.beq pc 209 then (.iastore, 210, (0, 0, 0), 0, 0, []) else TN))))) else (bif Nat.blt pc 219 then (bif Nat.blt pc 212 then (bif Nat.blt pc 211 then (bif Nat.beq pc 210 then (.aload_n 0, 211, (0, 0, 0), 0, 0, []) else TN) else (bif Nat.beq pc 211 then (.iload_n 3, 212, (3, 0, 0), 0, 0, []) else TN)) else (bif Nat.blt pc 215 then (bif Nat.beq pc 212 then (.ifCond .eq 11, 215, (223, 0, 0), 0, 0, []) else TN) else (bif Nat.blt pc 216 then (bif Nat.beq pc 215 then (.iload_n 2, 216, (2, 0, 0), 0, 0, []) else TN) else (bif Nat.beq pc 216 then (.ifCond .ne 7, 219, (223, 0, 0), 0, 0, []) else TN)))) else (bif Nat.blt pc 223 then (bif Nat.blt pc 220 then (bif Nat.beq pc 219 then (.iconst 1, 220, (0, 0, 0), 1, 0, []) else TN) else (bif Nat.beq pc 220 then (.goto 4, 223, (224, 0, 0), 0, 0, []) else TN)) else (bif Nat.blt pc 224 then (bif Nat.beq pc 223 then (.iload_n 2, 224, (2, 0, 0), 0, 0, []) else TN) else (bif Nat.blt pc 227 then (bif Nat.beq pc 224 then (.putfield 231, 227, (12, 47, 0), 0, 0, []) else TN) else (bif Nat.beq pc 227 then (.return_, 228, (0, 0, 0), 0, 0, []) else TN))))))))
def tb_X12_parts (pc : Nat) : TI := bif Nat.ble 228 pc then TN else tt_X12_parts pc
theorem ok_X12_parts : tOK 12 (decide ("parts" = "<init>")) cX12_parts tb_X12_parts := tOK_of 228 tn_of (by decide +kernel)
def f_X12_parts_107 (c46 : Lay → Sto → Nat → Int32 → Int32 → Int32 → Option Sto) (L : Lay) (σ : Sto) (a0 : Nat) (a1 : Int32) (a2 : Int32) (a3 : Int32) : Option Sto := c46 L σ a0 a1 a2 (a3 + 1)
def A_X12_parts_107 (c : Lay → Sto → Nat → Int32 → Int32 → Int32 → Option Sto) (lc : List (Option AV)) (st : List AV) (L : Lay) (σ : Sto) : Option Sto := match lc, st with
  | [some (.inr (.inr (.inl (ta0, some a0)))), some (.inl a1), some (.inl a2), some (.inl a3)], [] => bif Nat.beq ta0 12 && true then c L σ a0 a1 a2 a3 else none
  | _, _ => none
def f_X12_parts_105 (c46 : Lay → Sto → Nat → Int32 → Int32 → Int32 → Option Sto) (L : Lay) (σ : Sto) (a0 : Nat) (a1 : Int32) (a3 : Int32) (s0 : Int32) (s1 : Int32) : Option Sto := (f_X12_parts_107 c46) L σ a0 a1 (s1 + s0) a3
def A_X12_parts_105 (c : Lay → Sto → Nat → Int32 → Int32 → Int32 → Int32 → Option Sto) (lc : List (Option AV)) (st : List AV) (L : Lay) (σ : Sto) : Option Sto := match lc, st with
  | [some (.inr (.inr (.inl (ta0, some a0)))), some (.inl a1), _, some (.inl a3)], [.inl s0, .inl s1] => bif Nat.beq ta0 12 && true then c L σ a0 a1 a3 s0 s1 else none
  | _, _ => none
def f_X12_parts_224 (L : Lay) (σ : Sto) (s0 : Int32) (s1 : Nat) : Option Sto := (putI σ s1 47 s0).bind fun σ1 => some σ1
def A_X12_parts_224 (c : Lay → Sto → Int32 → Nat → Option Sto) (lc : List (Option AV)) (st : List AV) (L : Lay) (σ : Sto) : Option Sto := match lc, st with
  | [_, _, _, _], [.inl s0, .inr (.inr (.inl (ts1, some s1)))] => bif Nat.beq ts1 12 && true then c L σ s0 s1 else none
  | _, _ => none
def f_X12_parts_223 (L : Lay) (σ : Sto) (a2 : Int32) (s0 : Nat) : Option Sto := (f_X12_parts_224) L σ a2 s0
def A_X12_parts_223 (c : Lay → Sto → Int32 → Nat → Option Sto) (lc : List (Option AV)) (st : List AV) (L : Lay) (σ : Sto) : Option Sto := match lc, st with
  | [_, _, some (.inl a2), _], [.inr (.inr (.inl (ts0, some s0)))] => bif Nat.beq ts0 12 && true then c L σ a2 s0 else none
  | _, _ => none
def f_X12_parts_210 (L : Lay) (σ : Sto) (a0 : Nat) (a2 : Int32) (a3 : Int32) : Option Sto := (if a3 = 0 then (f_X12_parts_223) L σ a2 a0 else (if a2 = 0 then (f_X12_parts_224) L σ 1 a0 else (f_X12_parts_223) L σ a2 a0))
def A_X12_parts_210 (c : Lay → Sto → Nat → Int32 → Int32 → Option Sto) (lc : List (Option AV)) (st : List AV) (L : Lay) (σ : Sto) : Option Sto := match lc, st with
  | [some (.inr (.inr (.inl (ta0, some a0)))), _, some (.inl a2), some (.inl a3)], [] => bif Nat.beq ta0 12 && true then c L σ a0 a2 a3 else none
  | _, _ => none
def f_X12_parts_133 (L : Lay) (σ : Sto) (a0 : Nat) (a2 : Int32) (s0 : Int32) : Option Sto := (if s0 = 0 then (f_X12_parts_210) L σ a0 a2 s0 else (if a2 ≤ 0 then (f_X12_parts_210) L σ a0 a2 s0 else (σ.2.1 a0 48).bind fun x2 => (rI L σ x2 (a2 - 1)).bind fun v3 => (σ.2.1 a0 48).bind fun x4 => (rI L σ x4 a2).bind fun v5 => (σ.2.1 a0 48).bind fun x6 => (wI L σ x6 (a2 - 1) (v3 ||| v5)).bind fun σ7 => (σ7.2.1 a0 49).bind fun x8 => (rI L σ7 x8 (a2 - 1)).bind fun v9 => (σ7.2.1 a0 49).bind fun x10 => (rI L σ7 x10 a2).bind fun v11 => (σ7.2.1 a0 49).bind fun x12 => (wI L σ7 x12 (a2 - 1) (v9 + v11)).bind fun σ13 => (σ13.2.1 a0 50).bind fun x14 => (rI L σ13 x14 (a2 - 1)).bind fun v15 => (σ13.2.1 a0 50).bind fun x16 => (rI L σ13 x16 a2).bind fun v17 => (σ13.2.1 a0 50).bind fun x18 => (wI L σ13 x18 (a2 - 1) (v15 + v17)).bind fun σ19 => (σ19.2.1 a0 51).bind fun x20 => (rI L σ19 x20 (a2 - 1)).bind fun v21 => (σ19.2.1 a0 51).bind fun x22 => (rI L σ19 x22 a2).bind fun v23 => (σ19.2.1 a0 51).bind fun x24 => (wI L σ19 x24 (a2 - 1) (v21 + v23)).bind fun σ25 => (f_X12_parts_210) L σ25 a0 a2 s0))
def A_X12_parts_133 (c : Lay → Sto → Nat → Int32 → Int32 → Option Sto) (lc : List (Option AV)) (st : List AV) (L : Lay) (σ : Sto) : Option Sto := match lc, st with
  | [some (.inr (.inr (.inl (ta0, some a0)))), _, some (.inl a2), _], [.inl s0] => bif Nat.beq ta0 12 && true then c L σ a0 a2 s0 else none
  | _, _ => none
def f_X12_parts_132 (L : Lay) (σ : Sto) (a0 : Nat) (a2 : Int32) : Option Sto := (f_X12_parts_133) L σ a0 a2 0
def A_X12_parts_132 (c : Lay → Sto → Nat → Int32 → Option Sto) (lc : List (Option AV)) (st : List AV) (L : Lay) (σ : Sto) : Option Sto := match lc, st with
  | [some (.inr (.inr (.inl (ta0, some a0)))), _, some (.inl a2), _], [] => bif Nat.beq ta0 12 && true then c L σ a0 a2 else none
  | _, _ => none
def f_X12_parts_46 : Nat → Lay → Sto → Nat → Int32 → Int32 → Int32 → Option Sto
  | 0 => fun _ _ _ _ _ _ => none
  | k + 1 => fun L σ a0 a1 a2 a3 => (if (σ.1 a0 2) ≤ a3 then (if 6 ≤ a2 then (f_X12_parts_132) L σ a0 a2 else (σ.2.1 a0 48).bind fun x26 => (rI L σ x26 a2).bind fun v27 => (if v27 = 0 then (f_X12_parts_132) L σ a0 a2 else (f_X12_parts_133) L σ a0 a2 1)) else (σ.2.1 a0 17).bind fun x28 => (rI L σ x28 a1).bind fun v29 => (if ((v29 >>> (a3 &&& 31)) &&& 1) = 1 then (f_X12_hasEntitled L σ a0 a1 a3).bind fun r30 => (if r30 = 0 then (f_X12_parts_107 (f_X12_parts_46 k)) L σ a0 a1 a2 a3 else (f_X12_adds L σ a0 a1 a3 a2).bind fun σ31 => (σ31.2.1 a0 49).bind fun x32 => (rI L σ31 x32 a2).bind fun v33 => (σ31.2.1 a0 36).bind fun x34 => (rI L σ31 x34 4).bind fun v35 => (if v33 < v35 then (f_X12_parts_105 (f_X12_parts_46 k)) L σ31 a0 a1 a3 0 a2 else (f_X12_parts_105 (f_X12_parts_46 k)) L σ31 a0 a1 a3 1 a2)) else (f_X12_parts_107 (f_X12_parts_46 k)) L σ a0 a1 a2 a3))
def A_X12_parts_46 (c : Lay → Sto → Nat → Int32 → Int32 → Int32 → Option Sto) (lc : List (Option AV)) (st : List AV) (L : Lay) (σ : Sto) : Option Sto := match lc, st with
  | [some (.inr (.inr (.inl (ta0, some a0)))), some (.inl a1), some (.inl a2), some (.inl a3)], [] => bif Nat.beq ta0 12 && true then c L σ a0 a1 a2 a3 else none
  | _, _ => none
def f_X12_parts_2 : Nat → Lay → Sto → Nat → Int32 → Int32 → Option Sto
  | 0 => fun _ _ _ _ _ => none
  | k + 1 => fun L σ a0 a1 a2 => (if 6 ≤ a2 then (f_X12_parts_46 FU) L σ a0 a1 0 0 else (σ.2.1 a0 48).bind fun x36 => (wI L σ x36 a2 0).bind fun σ37 => (σ37.2.1 a0 49).bind fun x38 => (wI L σ37 x38 a2 0).bind fun σ39 => (σ39.2.1 a0 50).bind fun x40 => (wI L σ39 x40 a2 0).bind fun σ41 => (σ41.2.1 a0 51).bind fun x42 => (wI L σ41 x42 a2 0).bind fun σ43 => (f_X12_parts_2 k) L σ43 a0 a1 (a2 + 1))
def A_X12_parts_2 (c : Lay → Sto → Nat → Int32 → Int32 → Option Sto) (lc : List (Option AV)) (st : List AV) (L : Lay) (σ : Sto) : Option Sto := match lc, st with
  | [some (.inr (.inr (.inl (ta0, some a0)))), some (.inl a1), some (.inl a2), _], [] => bif Nat.beq ta0 12 && true then c L σ a0 a1 a2 else none
  | _, _ => none
def f_X12_parts (L : Lay) (σ : Sto) (a0 : Nat) (a1 : Int32) : Option Sto := (f_X12_parts_2 FU) L σ a0 a1 0
def ad_X12_parts : ADT := fun O L σ as k => match as with
  | [.inr (.inr (.inl (ta0, some a0))), .inl a1] => bif Nat.beq ta0 12 && true then (f_X12_parts L σ a0 a1).bind fun σ2 => k none L σ2 else none
  | _ => none
abbrev cl_X12_parts {O : Type} : CLT O := (clc 145 ad_X12_hasEntitled (clc 120 ad_X12_adds cl0))
theorem hc_X12_parts (G : GT) (l : Launch) {d : Nat} (hd : 3 ≤ d) {O : Type} : HCL G l (true, false) d (cl_X12_parts (O := O)) := (hclc (ca_X12_hasEntitled G l (d := 2) (Nat.le_refl _)) (fun _ => rfl) (fun e => by cases e) (by omega) (hclc (ca_X12_adds G l (d := 2) (Nat.le_refl _)) (fun _ => rfl) (fun e => by cases e) (by omega) hcl0))
theorem rt_X12_parts : retOK (6, 0) none := ⟨fun h => absurd h (by decide), fun h => absurd h (by decide), fun _ => rfl⟩
set_option maxRecDepth 20000 in
theorem b_X12_parts_107 {G : GT} {l : Launch} {d : Nat} {L0 : Lay} {σ0 : Sto} (hd : 3 ≤ d) {c46 : Lay → Sto → Nat → Int32 → Int32 → Int32 → Option Sto} (h46 : HF G l 12 "parts" cX12_parts 4 none d L0 σ0 (true, false) (dcV L0) 46 (A_X12_parts_46 c46)) : HF G l 12 "parts" cX12_parts 4 none d L0 σ0 (true, false) (dcV L0) 107 (A_X12_parts_107 (f_X12_parts_107 c46)) := by
  intro lc st L σ o h hI
  unfold A_X12_parts_107 at h
  split at h
  · obtain ⟨hq0, hA1⟩ := bif_s h
    obtain ⟨e0, hq1⟩ := beq_and hq0
    subst e0
    exact exs (sp := [46]) (K := (kc 46 (A_X12_parts_46 c46) k0)) ok_X12_parts rt_X12_parts (by omega) (hc_X12_parts G l hd) (hrV rfl) (hkc h46 hk0) 153 hA1 hI
  · cases h
set_option maxRecDepth 20000 in
theorem b_X12_parts_105 {G : GT} {l : Launch} {d : Nat} {L0 : Lay} {σ0 : Sto} (hd : 3 ≤ d) {c46 : Lay → Sto → Nat → Int32 → Int32 → Int32 → Option Sto} (h46 : HF G l 12 "parts" cX12_parts 4 none d L0 σ0 (true, false) (dcV L0) 46 (A_X12_parts_46 c46)) : HF G l 12 "parts" cX12_parts 4 none d L0 σ0 (true, false) (dcV L0) 105 (A_X12_parts_105 (f_X12_parts_105 c46)) := by
  intro lc st L σ o h hI
  unfold A_X12_parts_105 at h
  split at h
  · obtain ⟨hq0, hA1⟩ := bif_s h
    obtain ⟨e0, hq1⟩ := beq_and hq0
    subst e0
    exact exs (sp := [107]) (K := (kc 107 (A_X12_parts_107 (f_X12_parts_107 c46)) k0)) ok_X12_parts rt_X12_parts (by omega) (hc_X12_parts G l hd) (hrV rfl) (hkc (b_X12_parts_107 hd h46) hk0) 153 hA1 hI
  · cases h
set_option maxRecDepth 20000 in
theorem b_X12_parts_224 {G : GT} {l : Launch} {d : Nat} {L0 : Lay} {σ0 : Sto} (hd : 3 ≤ d) : HF G l 12 "parts" cX12_parts 4 none d L0 σ0 (true, false) (dcV L0) 224 (A_X12_parts_224 f_X12_parts_224) := by
  intro lc st L σ o h hI
  unfold A_X12_parts_224 at h
  split at h
  · obtain ⟨hq0, hA1⟩ := bif_s h
    obtain ⟨e0, hq1⟩ := beq_and hq0
    subst e0
    exact exs (sp := []) (K := k0) ok_X12_parts rt_X12_parts (by omega) (hc_X12_parts G l hd) (hrV rfl) hk0 153 hA1 hI
  · cases h
set_option maxRecDepth 20000 in
theorem b_X12_parts_223 {G : GT} {l : Launch} {d : Nat} {L0 : Lay} {σ0 : Sto} (hd : 3 ≤ d) : HF G l 12 "parts" cX12_parts 4 none d L0 σ0 (true, false) (dcV L0) 223 (A_X12_parts_223 f_X12_parts_223) := by
  intro lc st L σ o h hI
  unfold A_X12_parts_223 at h
  split at h
  · obtain ⟨hq0, hA1⟩ := bif_s h
    obtain ⟨e0, hq1⟩ := beq_and hq0
    subst e0
    exact exs (sp := [224]) (K := (kc 224 (A_X12_parts_224 (f_X12_parts_224)) k0)) ok_X12_parts rt_X12_parts (by omega) (hc_X12_parts G l hd) (hrV rfl) (hkc (b_X12_parts_224 hd) hk0) 153 hA1 hI
  · cases h
set_option maxRecDepth 20000 in
theorem b_X12_parts_210 {G : GT} {l : Launch} {d : Nat} {L0 : Lay} {σ0 : Sto} (hd : 3 ≤ d) : HF G l 12 "parts" cX12_parts 4 none d L0 σ0 (true, false) (dcV L0) 210 (A_X12_parts_210 f_X12_parts_210) := by
  intro lc st L σ o h hI
  unfold A_X12_parts_210 at h
  split at h
  · obtain ⟨hq0, hA1⟩ := bif_s h
    obtain ⟨e0, hq1⟩ := beq_and hq0
    subst e0
    exact exs (sp := [223, 224]) (K := (kc 223 (A_X12_parts_223 (f_X12_parts_223)) (kc 224 (A_X12_parts_224 (f_X12_parts_224)) k0))) ok_X12_parts rt_X12_parts (by omega) (hc_X12_parts G l hd) (hrV rfl) (hkc (b_X12_parts_223 hd) (hkc (b_X12_parts_224 hd) hk0)) 153 hA1 hI
  · cases h
set_option maxRecDepth 20000 in
theorem b_X12_parts_133 {G : GT} {l : Launch} {d : Nat} {L0 : Lay} {σ0 : Sto} (hd : 3 ≤ d) : HF G l 12 "parts" cX12_parts 4 none d L0 σ0 (true, false) (dcV L0) 133 (A_X12_parts_133 f_X12_parts_133) := by
  intro lc st L σ o h hI
  unfold A_X12_parts_133 at h
  split at h
  · obtain ⟨hq0, hA1⟩ := bif_s h
    obtain ⟨e0, hq1⟩ := beq_and hq0
    subst e0
    exact exs (sp := [210]) (K := (kc 210 (A_X12_parts_210 (f_X12_parts_210)) k0)) ok_X12_parts rt_X12_parts (by omega) (hc_X12_parts G l hd) (hrV rfl) (hkc (b_X12_parts_210 hd) hk0) 153 hA1 hI
  · cases h
set_option maxRecDepth 20000 in
theorem b_X12_parts_132 {G : GT} {l : Launch} {d : Nat} {L0 : Lay} {σ0 : Sto} (hd : 3 ≤ d) : HF G l 12 "parts" cX12_parts 4 none d L0 σ0 (true, false) (dcV L0) 132 (A_X12_parts_132 f_X12_parts_132) := by
  intro lc st L σ o h hI
  unfold A_X12_parts_132 at h
  split at h
  · obtain ⟨hq0, hA1⟩ := bif_s h
    obtain ⟨e0, hq1⟩ := beq_and hq0
    subst e0
    exact exs (sp := [133]) (K := (kc 133 (A_X12_parts_133 (f_X12_parts_133)) k0)) ok_X12_parts rt_X12_parts (by omega) (hc_X12_parts G l hd) (hrV rfl) (hkc (b_X12_parts_133 hd) hk0) 153 hA1 hI
  · cases h
set_option maxRecDepth 20000 in
theorem b_X12_parts_46 {G : GT} {l : Launch} {d : Nat} {L0 : Lay} {σ0 : Sto} (hd : 3 ≤ d) : ∀ k : Nat, HF G l 12 "parts" cX12_parts 4 none d L0 σ0 (true, false) (dcV L0) 46 (A_X12_parts_46 (f_X12_parts_46 k))
  | 0 => by
    intro lc st L σ o h hI
    unfold A_X12_parts_46 at h
    split at h
    · obtain ⟨_, hA1⟩ := bif_s h
      cases hA1
    · cases h
  | k + 1 => by
    have ih := b_X12_parts_46 (G := G) (l := l) (d := d) (L0 := L0) (σ0 := σ0) hd k
    intro lc st L σ o h hI
    unfold A_X12_parts_46 at h
    split at h
    · obtain ⟨hq0, hA1⟩ := bif_s h
      obtain ⟨e0, hq1⟩ := beq_and hq0
      subst e0
      exact exs (sp := [105, 107, 132, 133]) (K := (kc 105 (A_X12_parts_105 (f_X12_parts_105 (f_X12_parts_46 k))) (kc 107 (A_X12_parts_107 (f_X12_parts_107 (f_X12_parts_46 k))) (kc 132 (A_X12_parts_132 (f_X12_parts_132)) (kc 133 (A_X12_parts_133 (f_X12_parts_133)) k0))))) ok_X12_parts rt_X12_parts (by omega) (hc_X12_parts G l hd) (hrV rfl) (hkc (b_X12_parts_105 hd ih) (hkc (b_X12_parts_107 hd ih) (hkc (b_X12_parts_132 hd) (hkc (b_X12_parts_133 hd) hk0)))) 153 hA1 hI
    · cases h
set_option maxRecDepth 20000 in
theorem b_X12_parts_2 {G : GT} {l : Launch} {d : Nat} {L0 : Lay} {σ0 : Sto} (hd : 3 ≤ d) : ∀ k : Nat, HF G l 12 "parts" cX12_parts 4 none d L0 σ0 (true, false) (dcV L0) 2 (A_X12_parts_2 (f_X12_parts_2 k))
  | 0 => by
    intro lc st L σ o h hI
    unfold A_X12_parts_2 at h
    split at h
    · obtain ⟨_, hA1⟩ := bif_s h
      cases hA1
    · cases h
  | k + 1 => by
    have ih := b_X12_parts_2 (G := G) (l := l) (d := d) (L0 := L0) (σ0 := σ0) hd k
    intro lc st L σ o h hI
    unfold A_X12_parts_2 at h
    split at h
    · obtain ⟨hq0, hA1⟩ := bif_s h
      obtain ⟨e0, hq1⟩ := beq_and hq0
      subst e0
      exact exs (sp := [2, 46]) (K := (kc 2 (A_X12_parts_2 (f_X12_parts_2 k)) (kc 46 (A_X12_parts_46 (f_X12_parts_46 FU)) k0))) ok_X12_parts rt_X12_parts (by omega) (hc_X12_parts G l hd) (hrV rfl) (hkc ih (hkc (b_X12_parts_46 hd FU) hk0)) 153 hA1 hI
    · cases h
set_option maxRecDepth 20000 in
theorem ca_X12_parts (G : GT) (l : Launch) {d : Nat} (hd : 3 ≤ d) : CA G l 194 (true, false) d ad_X12_parts := by
  intro O L σ as k o h hW hok
  unfold ad_X12_parts at h
  split at h
  · obtain ⟨hq0, hA0⟩ := bif_s h
    obtain ⟨e0, hq1⟩ := beq_and hq0
    subst e0
    obtain ⟨r, hr, hk⟩ := Option.bind_eq_some_iff.mp hA0
    exact ca_of (q := (dcV L) r) (by decide) rfl (Nat.le_of_ble_eq_true rfl) hk (fun _ => rfl) (fun e => by cases e) (exs (sp := [2]) (K := (kc 2 (A_X12_parts_2 (f_X12_parts_2 FU)) k0)) (L0 := L) (σ0 := σ) ok_X12_parts rt_X12_parts (by omega) (hc_X12_parts G l hd) (hrV rfl) (hkc (b_X12_parts_2 hd FU) hk0) 153 hr (inv0 hW hok))
  · cases h
def tt_X12_parcel (pc : Nat) : TI := bif Nat.blt pc 45 then (bif Nat.blt pc 23 then (bif Nat.blt pc 12 then (bif Nat.blt pc 5 then (bif Nat.blt pc 1 then (bif Nat.beq pc 0 then (.aload_n 0, 1, (0, 0, 0), 0, 0, []) else TN) else (bif Nat.blt pc 2 then (bif Nat.beq pc 1 then (.iload_n 1, 2, (1, 0, 0), 0, 0, []) else TN) else (bif Nat.beq pc 2 then (.invokevirtual 205, 5, (149, 1, 12), 0, 0, []) else TN))) else (bif Nat.blt pc 8 then (bif Nat.beq pc 5 then (.ifCond .eq 16, 8, (21, 0, 0), 0, 0, []) else TN) else (bif Nat.blt pc 9 then (bif Nat.beq pc 8 then (.iload_n 2, 9, (2, 0, 0), 0, 0, []) else TN) else (bif Nat.beq pc 9 then (.ifCond .lt 12, 12, (21, 0, 0), 0, 0, []) else TN)))) else (bif Nat.blt pc 15 then (bif Nat.blt pc 13 then (bif Nat.beq pc 12 then (.iload_n 3, 13, (3, 0, 0), 0, 0, []) else TN) else (bif Nat.blt pc 14 then (bif Nat.beq pc 13 then (.iconst 0, 14, (0, 0, 0), 0, 0, []) else TN) else (bif Nat.beq pc 14 then (.iconst 3, 15, (0, 0, 0), 3, 0, []) else TN))) else (bif Nat.blt pc 18 then (bif Nat.beq pc 15 then (.invokestatic 146, 18, (147, 3, 0), 0, 0, []) else TN) else (bif Nat.blt pc 21 then (bif Nat.beq pc 18 then (.ifCond .ne 6, 21, (24, 0, 0), 0, 0, []) else TN) else (bif Nat.beq pc 21 then (.ldc 156, 23, (0, 0, 0), -1000000001, 0, []) else TN))))) else (bif Nat.blt pc 31 then (bif Nat.blt pc 26 then (bif Nat.blt pc 24 then (bif Nat.beq pc 23 then (.ireturn, 24, (0, 0, 0), 0, 0, []) else TN) else (bif Nat.blt pc 25 then (bif Nat.beq pc 24 then (.aload_n 0, 25, (0, 0, 0), 0, 0, []) else TN) else (bif Nat.beq pc 25 then (.iload_n 1, 26, (1, 0, 0), 0, 0, []) else TN))) else (bif Nat.blt pc 29 then (bif Nat.beq pc 26 then (.invokevirtual 234, 29, (194, 1, 12), 0, 0, []) else TN) else (bif Nat.blt pc 30 then (bif Nat.beq pc 29 then (.iload_n 2, 30, (2, 0, 0), 0, 0, []) else TN) else (bif Nat.beq pc 30 then (.aload_n 0, 31, (0, 0, 0), 0, 0, []) else TN)))) else (bif Nat.blt pc 39 then (bif Nat.blt pc 34 then (bif Nat.beq pc 31 then (.getfield 231, 34, (12, 47, 0), 0, 0, []) else TN) else (bif Nat.blt pc 37 then (bif Nat.beq pc 34 then (.if_icmp .lt 6, 37, (40, 0, 0), 0, 0, []) else TN) else (bif Nat.beq pc 37 then (.ldc 177, 39, (0, 0, 0), -1000000005, 0, []) else TN))) else (bif Nat.blt pc 41 then (bif Nat.blt pc 40 then (bif Nat.beq pc 39 then (.ireturn, 40, (0, 0, 0), 0, 0, []) else TN) else (bif Nat.beq pc 40 then (.iload_n 3, 41, (3, 0, 0), 0, 0, []) else TN)) else (bif Nat.blt pc 44 then (bif Nat.beq pc 41 then (.ifCond .ne 12, 44, (53, 0, 0), 0, 0, []) else TN) else (bif Nat.beq pc 44 then (.aload_n 0, 45, (0, 0, 0), 0, 0, []) else TN)))))) else (bif Nat.blt pc 67 then (bif Nat.blt pc 55 then (bif Nat.blt pc 50 then (bif Nat.blt pc 48 then (bif Nat.beq pc 45 then (.getfield 121, 48, (12, 48, 0), 0, 0, []) else TN) else (bif Nat.blt pc 49 then (bif Nat.beq pc 48 then (.iload_n 2, 49, (2, 0, 0), 0, 0, []) else TN) else (bif Nat.beq pc 49 then (.iaload, 50, (0, 0, 0), 0, 0, []) else TN))) else (bif Nat.blt pc 53 then (bif Nat.beq pc 50 then (.goto 37, 53, (87, 0, 0), 0, 0, []) else TN) else (bif Nat.blt pc 54 then (bif Nat.beq pc 53 then (.iload_n 3, 54, (3, 0, 0), 0, 0, []) else TN) else (bif Nat.beq pc 54 then (.iconst 1, 55, (0, 0, 0), 1, 0, []) else TN)))) else (bif Nat.blt pc 62 then (bif Nat.blt pc 58 then (bif Nat.beq pc 55 then (.if_icmp .ne 12, 58, (67, 0, 0), 0, 0, []) else TN) else (bif Nat.blt pc 59 then (bif Nat.beq pc 58 then (.aload_n 0, 59, (0, 0, 0), 0, 0, []) else TN) else (bif Nat.beq pc 59 then (.getfield 124, 62, (12, 49, 0), 0, 0, []) else TN))) else (bif Nat.blt pc 63 then (bif Nat.beq pc 62 then (.iload_n 2, 63, (2, 0, 0), 0, 0, []) else TN) else (bif Nat.blt pc 64 then (bif Nat.beq pc 63 then (.iaload, 64, (0, 0, 0), 0, 0, []) else TN) else (bif Nat.beq pc 64 then (.goto 23, 67, (87, 0, 0), 0, 0, []) else TN))))) else (bif Nat.blt pc 77 then (bif Nat.blt pc 72 then (bif Nat.blt pc 68 then (bif Nat.beq pc 67 then (.iload_n 3, 68, (3, 0, 0), 0, 0, []) else TN) else (bif Nat.blt pc 69 then (bif Nat.beq pc 68 then (.iconst 2, 69, (0, 0, 0), 2, 0, []) else TN) else (bif Nat.beq pc 69 then (.if_icmp .ne 12, 72, (81, 0, 0), 0, 0, []) else TN))) else (bif Nat.blt pc 73 then (bif Nat.beq pc 72 then (.aload_n 0, 73, (0, 0, 0), 0, 0, []) else TN) else (bif Nat.blt pc 76 then (bif Nat.beq pc 73 then (.getfield 127, 76, (12, 50, 0), 0, 0, []) else TN) else (bif Nat.beq pc 76 then (.iload_n 2, 77, (2, 0, 0), 0, 0, []) else TN)))) else (bif Nat.blt pc 82 then (bif Nat.blt pc 78 then (bif Nat.beq pc 77 then (.iaload, 78, (0, 0, 0), 0, 0, []) else TN) else (bif Nat.blt pc 81 then (bif Nat.beq pc 78 then (.goto 9, 81, (87, 0, 0), 0, 0, []) else TN) else (bif Nat.beq pc 81 then (.aload_n 0, 82, (0, 0, 0), 0, 0, []) else TN))) else (bif Nat.blt pc 86 then (bif Nat.blt pc 85 then (bif Nat.beq pc 82 then (.getfield 130, 85, (12, 51, 0), 0, 0, []) else TN) else (bif Nat.beq pc 85 then (.iload_n 2, 86, (2, 0, 0), 0, 0, []) else TN)) else (bif Nat.blt pc 87 then (bif Nat.beq pc 86 then (.iaload, 87, (0, 0, 0), 0, 0, []) else TN) else (bif Nat.beq pc 87 then (.ireturn, 88, (0, 0, 0), 0, 0, []) else TN))))))
def tb_X12_parcel (pc : Nat) : TI := bif Nat.ble 88 pc then TN else tt_X12_parcel pc
theorem ok_X12_parcel : tOK 12 (decide ("parcel" = "<init>")) cX12_parcel tb_X12_parcel := tOK_of 88 tn_of (by decide +kernel)
def f_X12_parcel (L : Lay) (σ : Sto) (a0 : Nat) (a1 : Int32) (a2 : Int32) (a3 : Int32) : Option (Int32 × Sto) := (f_X12_isBallot L σ a0 a1).bind fun r1 => (if r1 = 0 then some ((-1000000001), σ) else (if a2 < 0 then some ((-1000000001), σ) else (f_X12_in L σ a3 0 3).bind fun r2 => (if r2 = 0 then some ((-1000000001), σ) else (f_X12_parts L σ a0 a1).bind fun σ3 => (if a2 < (σ3.1 a0 47) then (if a3 = 0 then (σ3.2.1 a0 48).bind fun x10 => (rI L σ3 x10 a2).bind fun v11 => some (v11, σ3) else (if a3 = 1 then (σ3.2.1 a0 49).bind fun x8 => (rI L σ3 x8 a2).bind fun v9 => some (v9, σ3) else (if a3 = 2 then (σ3.2.1 a0 50).bind fun x6 => (rI L σ3 x6 a2).bind fun v7 => some (v7, σ3) else (σ3.2.1 a0 51).bind fun x4 => (rI L σ3 x4 a2).bind fun v5 => some (v5, σ3)))) else some ((-1000000005), σ3)))))
def ad_X12_parcel : ADT := fun O L σ as k => match as with
  | [.inr (.inr (.inl (ta0, some a0))), .inl a1, .inl a2, .inl a3] => bif Nat.beq ta0 12 && true then (f_X12_parcel L σ a0 a1 a2 a3).bind fun r => k (some (vI r.1)) L r.2 else none
  | _ => none
abbrev cl_X12_parcel {O : Type} : CLT O := (clc 149 ad_X12_isBallot (clc 147 ad_X12_in (clc 194 ad_X12_parts cl0)))
theorem hc_X12_parcel (G : GT) (l : Launch) {d : Nat} (hd : 4 ≤ d) {O : Type} : HCL G l (true, false) d (cl_X12_parcel (O := O)) := (hclc (ca_X12_isBallot G l (d := 2) (Nat.le_refl _)) (fun _ => rfl) (fun e => by cases e) (by omega) (hclc (ca_X12_in G l (d := 1) (Nat.le_refl _)) (fun _ => rfl) (fun e => by cases e) (by omega) (hclc (ca_X12_parts G l (d := 3) (Nat.le_refl _)) (fun _ => rfl) (fun e => by cases e) (by omega) hcl0)))
theorem rt_X12_parcel : retOK (0, 0) (some .int) := ⟨fun _ => rfl, fun h => absurd h (by decide), fun h => absurd h (by decide)⟩
set_option maxRecDepth 20000 in
theorem ca_X12_parcel (G : GT) (l : Launch) {d : Nat} (hd : 4 ≤ d) : CA G l 192 (true, false) d ad_X12_parcel := by
  intro O L σ as k o h hW hok
  unfold ad_X12_parcel at h
  split at h
  · obtain ⟨hq0, hA0⟩ := bif_s h
    obtain ⟨e0, hq1⟩ := beq_and hq0
    subst e0
    obtain ⟨r, hr, hk⟩ := Option.bind_eq_some_iff.mp hA0
    exact ca_of (q := (dcI L) r) (by decide) rfl (Nat.le_of_ble_eq_true rfl) hk (fun _ => rfl) (fun e => by cases e) (exs (sp := []) (K := k0) (L0 := L) (σ0 := σ) ok_X12_parcel rt_X12_parcel (by omega) (hc_X12_parcel G l hd) (hrI rfl) hk0 53 hr (inv0 hW hok))
  · cases h
def tt_X12_parcels (pc : Nat) : TI := bif Nat.blt pc 11 then (bif Nat.blt pc 5 then (bif Nat.blt pc 1 then (bif Nat.beq pc 0 then (.aload_n 0, 1, (0, 0, 0), 0, 0, []) else TN) else (bif Nat.blt pc 2 then (bif Nat.beq pc 1 then (.iload_n 1, 2, (1, 0, 0), 0, 0, []) else TN) else (bif Nat.beq pc 2 then (.invokevirtual 205, 5, (149, 1, 12), 0, 0, []) else TN))) else (bif Nat.blt pc 8 then (bif Nat.beq pc 5 then (.ifCond .ne 6, 8, (11, 0, 0), 0, 0, []) else TN) else (bif Nat.blt pc 10 then (bif Nat.beq pc 8 then (.ldc 156, 10, (0, 0, 0), -1000000001, 0, []) else TN) else (bif Nat.beq pc 10 then (.ireturn, 11, (0, 0, 0), 0, 0, []) else TN)))) else (bif Nat.blt pc 16 then (bif Nat.blt pc 12 then (bif Nat.beq pc 11 then (.aload_n 0, 12, (0, 0, 0), 0, 0, []) else TN) else (bif Nat.blt pc 13 then (bif Nat.beq pc 12 then (.iload_n 1, 13, (1, 0, 0), 0, 0, []) else TN) else (bif Nat.beq pc 13 then (.invokevirtual 234, 16, (194, 1, 12), 0, 0, []) else TN))) else (bif Nat.blt pc 17 then (bif Nat.beq pc 16 then (.aload_n 0, 17, (0, 0, 0), 0, 0, []) else TN) else (bif Nat.blt pc 20 then (bif Nat.beq pc 17 then (.getfield 231, 20, (12, 47, 0), 0, 0, []) else TN) else (bif Nat.beq pc 20 then (.ireturn, 21, (0, 0, 0), 0, 0, []) else TN))))
def tb_X12_parcels (pc : Nat) : TI := bif Nat.ble 21 pc then TN else tt_X12_parcels pc
theorem ok_X12_parcels : tOK 12 (decide ("parcels" = "<init>")) cX12_parcels tb_X12_parcels := tOK_of 21 tn_of (by decide +kernel)
def f_X12_parcels (L : Lay) (σ : Sto) (a0 : Nat) (a1 : Int32) : Option (Int32 × Sto) := (f_X12_isBallot L σ a0 a1).bind fun r1 => (if r1 = 0 then some ((-1000000001), σ) else (f_X12_parts L σ a0 a1).bind fun σ2 => some ((σ2.1 a0 47), σ2))
def ad_X12_parcels : ADT := fun O L σ as k => match as with
  | [.inr (.inr (.inl (ta0, some a0))), .inl a1] => bif Nat.beq ta0 12 && true then (f_X12_parcels L σ a0 a1).bind fun r => k (some (vI r.1)) L r.2 else none
  | _ => none
abbrev cl_X12_parcels {O : Type} : CLT O := (clc 149 ad_X12_isBallot (clc 194 ad_X12_parts cl0))
theorem hc_X12_parcels (G : GT) (l : Launch) {d : Nat} (hd : 4 ≤ d) {O : Type} : HCL G l (true, false) d (cl_X12_parcels (O := O)) := (hclc (ca_X12_isBallot G l (d := 2) (Nat.le_refl _)) (fun _ => rfl) (fun e => by cases e) (by omega) (hclc (ca_X12_parts G l (d := 3) (Nat.le_refl _)) (fun _ => rfl) (fun e => by cases e) (by omega) hcl0))
theorem rt_X12_parcels : retOK (0, 0) (some .int) := ⟨fun _ => rfl, fun h => absurd h (by decide), fun h => absurd h (by decide)⟩
set_option maxRecDepth 20000 in
theorem ca_X12_parcels (G : GT) (l : Launch) {d : Nat} (hd : 4 ≤ d) : CA G l 193 (true, false) d ad_X12_parcels := by
  intro O L σ as k o h hW hok
  unfold ad_X12_parcels at h
  split at h
  · obtain ⟨hq0, hA0⟩ := bif_s h
    obtain ⟨e0, hq1⟩ := beq_and hq0
    subst e0
    obtain ⟨r, hr, hk⟩ := Option.bind_eq_some_iff.mp hA0
    exact ca_of (q := (dcI L) r) (by decide) rfl (Nat.le_of_ble_eq_true rfl) hk (fun _ => rfl) (fun e => by cases e) (exs (sp := []) (K := k0) (L0 := L) (σ0 := σ) ok_X12_parcels rt_X12_parcels (by omega) (hc_X12_parcels G l hd) (hrI rfl) hk0 15 hr (inv0 hW hok))
  · cases h
def tt_X12_plan (pc : Nat) : TI := bif Nat.blt pc 11 then (bif Nat.blt pc 3 then (bif Nat.blt pc 1 then (bif Nat.beq pc 0 then (.aload_n 0, 1, (0, 0, 0), 0, 0, []) else TN) else (bif Nat.blt pc 2 then (bif Nat.beq pc 1 then (.iload_n 1, 2, (1, 0, 0), 0, 0, []) else TN) else (bif Nat.beq pc 2 then (.iload_n 2, 3, (2, 0, 0), 0, 0, []) else TN))) else (bif Nat.blt pc 9 then (bif Nat.blt pc 6 then (bif Nat.beq pc 3 then (.invokevirtual 384, 6, (160, 2, 12), 0, 0, []) else TN) else (bif Nat.beq pc 6 then (.ifCond .eq 16, 9, (22, 0, 0), 0, 0, []) else TN)) else (bif Nat.blt pc 10 then (bif Nat.beq pc 9 then (.aload_n 0, 10, (0, 0, 0), 0, 0, []) else TN) else (bif Nat.beq pc 10 then (.aload_n 0, 11, (0, 0, 0), 0, 0, []) else TN)))) else (bif Nat.blt pc 16 then (bif Nat.blt pc 12 then (bif Nat.beq pc 11 then (.iload_n 1, 12, (1, 0, 0), 0, 0, []) else TN) else (bif Nat.blt pc 13 then (bif Nat.beq pc 12 then (.iload_n 2, 13, (2, 0, 0), 0, 0, []) else TN) else (bif Nat.beq pc 13 then (.invokevirtual 387, 16, (124, 2, 12), 0, 0, []) else TN))) else (bif Nat.blt pc 22 then (bif Nat.blt pc 19 then (bif Nat.beq pc 16 then (.invokevirtual 372, 19, (144, 1, 12), 0, 0, []) else TN) else (bif Nat.beq pc 19 then (.goto 5, 22, (24, 0, 0), 0, 0, []) else TN)) else (bif Nat.blt pc 24 then (bif Nat.beq pc 22 then (.ldc 156, 24, (0, 0, 0), -1000000001, 0, []) else TN) else (bif Nat.beq pc 24 then (.ireturn, 25, (0, 0, 0), 0, 0, []) else TN))))
def tb_X12_plan (pc : Nat) : TI := bif Nat.ble 25 pc then TN else tt_X12_plan pc
theorem ok_X12_plan : tOK 12 (decide ("plan" = "<init>")) cX12_plan tb_X12_plan := tOK_of 25 tn_of (by decide +kernel)
def f_X12_plan (L : Lay) (σ : Sto) (a0 : Nat) (a1 : Int32) (a2 : Int32) : Option Int32 := (f_X12_isPlan L σ a0 a1 a2).bind fun r1 => (if r1 = 0 then some (-1000000001) else (f_X12_bestDays L σ a0 a1 a2).bind fun r2 => (f_X12_harmOf L σ a0 r2).bind fun r3 => some r3)
def ad_X12_plan : ADT := fun O L σ as k => match as with
  | [.inr (.inr (.inl (ta0, some a0))), .inl a1, .inl a2] => bif Nat.beq ta0 12 && true then (f_X12_plan L σ a0 a1 a2).bind fun r => k (some (vI r)) L σ else none
  | _ => none
abbrev cl_X12_plan {O : Type} : CLT O := (clc 160 ad_X12_isPlan (clc 124 ad_X12_bestDays (clc 144 ad_X12_harmOf cl0)))
theorem hc_X12_plan (G : GT) (l : Launch) {d : Nat} (hd : 5 ≤ d) {O : Type} : HCL G l (true, true) d (cl_X12_plan (O := O)) := (hclc (ca_X12_isPlan G l (d := 3) (Nat.le_refl _)) (fun _ => rfl) (fun _ => rfl) (by omega) (hclc (ca_X12_bestDays G l (d := 4) (Nat.le_refl _)) (fun _ => rfl) (fun _ => rfl) (by omega) (hclc (ca_X12_harmOf G l (d := 1) (Nat.le_refl _)) (fun _ => rfl) (fun _ => rfl) (by omega) hcl0)))
theorem rt_X12_plan : retOK (0, 0) (some .int) := ⟨fun _ => rfl, fun h => absurd h (by decide), fun h => absurd h (by decide)⟩
set_option maxRecDepth 20000 in
theorem ca_X12_plan (G : GT) (l : Launch) {d : Nat} (hd : 5 ≤ d) : CA G l 195 (true, true) d ad_X12_plan := by
  intro O L σ as k o h hW hok
  unfold ad_X12_plan at h
  split at h
  · obtain ⟨hq0, hA0⟩ := bif_s h
    obtain ⟨e0, hq1⟩ := beq_and hq0
    subst e0
    obtain ⟨r, hr, hk⟩ := Option.bind_eq_some_iff.mp hA0
    exact ca_of (q := (dcPI L σ) r) (by decide) rfl (Nat.le_of_ble_eq_true rfl) hk (fun _ => rfl) (fun _ => rfl) (exs (sp := []) (K := k0) (L0 := L) (σ0 := σ) ok_X12_plan rt_X12_plan (by omega) (hc_X12_plan G l hd) (hrPI rfl rfl) hk0 17 hr (inv0 hW hok))
  · cases h
def tt_X12_planned (pc : Nat) : TI := bif Nat.blt pc 10 then (bif Nat.blt pc 3 then (bif Nat.blt pc 1 then (bif Nat.beq pc 0 then (.aload_n 0, 1, (0, 0, 0), 0, 0, []) else TN) else (bif Nat.blt pc 2 then (bif Nat.beq pc 1 then (.iload_n 1, 2, (1, 0, 0), 0, 0, []) else TN) else (bif Nat.beq pc 2 then (.iload_n 2, 3, (2, 0, 0), 0, 0, []) else TN))) else (bif Nat.blt pc 6 then (bif Nat.beq pc 3 then (.invokevirtual 384, 6, (160, 2, 12), 0, 0, []) else TN) else (bif Nat.blt pc 9 then (bif Nat.beq pc 6 then (.ifCond .eq 12, 9, (18, 0, 0), 0, 0, []) else TN) else (bif Nat.beq pc 9 then (.aload_n 0, 10, (0, 0, 0), 0, 0, []) else TN)))) else (bif Nat.blt pc 15 then (bif Nat.blt pc 11 then (bif Nat.beq pc 10 then (.iload_n 1, 11, (1, 0, 0), 0, 0, []) else TN) else (bif Nat.blt pc 12 then (bif Nat.beq pc 11 then (.iload_n 2, 12, (2, 0, 0), 0, 0, []) else TN) else (bif Nat.beq pc 12 then (.invokevirtual 387, 15, (124, 2, 12), 0, 0, []) else TN))) else (bif Nat.blt pc 18 then (bif Nat.beq pc 15 then (.goto 5, 18, (20, 0, 0), 0, 0, []) else TN) else (bif Nat.blt pc 20 then (bif Nat.beq pc 18 then (.ldc 156, 20, (0, 0, 0), -1000000001, 0, []) else TN) else (bif Nat.beq pc 20 then (.ireturn, 21, (0, 0, 0), 0, 0, []) else TN))))
def tb_X12_planned (pc : Nat) : TI := bif Nat.ble 21 pc then TN else tt_X12_planned pc
theorem ok_X12_planned : tOK 12 (decide ("planned" = "<init>")) cX12_planned tb_X12_planned := tOK_of 21 tn_of (by decide +kernel)
def f_X12_planned (L : Lay) (σ : Sto) (a0 : Nat) (a1 : Int32) (a2 : Int32) : Option Int32 := (f_X12_isPlan L σ a0 a1 a2).bind fun r1 => (if r1 = 0 then some (-1000000001) else (f_X12_bestDays L σ a0 a1 a2).bind fun r2 => some r2)
def ad_X12_planned : ADT := fun O L σ as k => match as with
  | [.inr (.inr (.inl (ta0, some a0))), .inl a1, .inl a2] => bif Nat.beq ta0 12 && true then (f_X12_planned L σ a0 a1 a2).bind fun r => k (some (vI r)) L σ else none
  | _ => none
abbrev cl_X12_planned {O : Type} : CLT O := (clc 160 ad_X12_isPlan (clc 124 ad_X12_bestDays cl0))
theorem hc_X12_planned (G : GT) (l : Launch) {d : Nat} (hd : 5 ≤ d) {O : Type} : HCL G l (true, true) d (cl_X12_planned (O := O)) := (hclc (ca_X12_isPlan G l (d := 3) (Nat.le_refl _)) (fun _ => rfl) (fun _ => rfl) (by omega) (hclc (ca_X12_bestDays G l (d := 4) (Nat.le_refl _)) (fun _ => rfl) (fun _ => rfl) (by omega) hcl0))
theorem rt_X12_planned : retOK (0, 0) (some .int) := ⟨fun _ => rfl, fun h => absurd h (by decide), fun h => absurd h (by decide)⟩
set_option maxRecDepth 20000 in
theorem ca_X12_planned (G : GT) (l : Launch) {d : Nat} (hd : 5 ≤ d) : CA G l 196 (true, true) d ad_X12_planned := by
  intro O L σ as k o h hW hok
  unfold ad_X12_planned at h
  split at h
  · obtain ⟨hq0, hA0⟩ := bif_s h
    obtain ⟨e0, hq1⟩ := beq_and hq0
    subst e0
    obtain ⟨r, hr, hk⟩ := Option.bind_eq_some_iff.mp hA0
    exact ca_of (q := (dcPI L σ) r) (by decide) rfl (Nat.le_of_ble_eq_true rfl) hk (fun _ => rfl) (fun _ => rfl) (exs (sp := []) (K := k0) (L0 := L) (σ0 := σ) ok_X12_planned rt_X12_planned (by omega) (hc_X12_planned G l hd) (hrPI rfl rfl) hk0 15 hr (inv0 hW hok))
  · cases h
def tt_X12_roll (pc : Nat) : TI := bif Nat.blt pc 56 then (bif Nat.blt pc 28 then (bif Nat.blt pc 15 then (bif Nat.blt pc 5 then (bif Nat.blt pc 1 then (bif Nat.beq pc 0 then (.aload_n 0, 1, (0, 0, 0), 0, 0, []) else TN) else (bif Nat.blt pc 2 then (bif Nat.beq pc 1 then (.iload_n 1, 2, (1, 0, 0), 0, 0, []) else TN) else (bif Nat.beq pc 2 then (.invokevirtual 158, 5, (150, 1, 12), 0, 0, []) else TN))) else (bif Nat.blt pc 9 then (bif Nat.blt pc 8 then (bif Nat.beq pc 5 then (.ifCond .eq 10, 8, (15, 0, 0), 0, 0, []) else TN) else (bif Nat.beq pc 8 then (.iload_n 2, 9, (2, 0, 0), 0, 0, []) else TN)) else (bif Nat.blt pc 12 then (bif Nat.beq pc 9 then (.invokestatic 185, 12, (161, 1, 0), 0, 0, []) else TN) else (bif Nat.beq pc 12 then (.ifCond .ne 6, 15, (18, 0, 0), 0, 0, []) else TN)))) else (bif Nat.blt pc 22 then (bif Nat.blt pc 18 then (bif Nat.blt pc 17 then (bif Nat.beq pc 15 then (.ldc 156, 17, (0, 0, 0), -1000000001, 0, []) else TN) else (bif Nat.beq pc 17 then (.ireturn, 18, (0, 0, 0), 0, 0, []) else TN)) else (bif Nat.blt pc 19 then (bif Nat.beq pc 18 then (.aload_n 0, 19, (0, 0, 0), 0, 0, []) else TN) else (bif Nat.beq pc 19 then (.getfield 101, 22, (12, 41, 0), 0, 0, []) else TN))) else (bif Nat.blt pc 24 then (bif Nat.blt pc 23 then (bif Nat.beq pc 22 then (.iload_n 2, 23, (2, 0, 0), 0, 0, []) else TN) else (bif Nat.beq pc 23 then (.iaload, 24, (0, 0, 0), 0, 0, []) else TN)) else (bif Nat.blt pc 25 then (bif Nat.beq pc 24 then (.iconst (-1), 25, (0, 0, 0), -1, 0, []) else TN) else (bif Nat.beq pc 25 then (.if_icmp .ne 6, 28, (31, 0, 0), 0, 0, []) else TN))))) else (bif Nat.blt pc 39 then (bif Nat.blt pc 33 then (bif Nat.blt pc 31 then (bif Nat.blt pc 30 then (bif Nat.beq pc 28 then (.ldc 188, 30, (0, 0, 0), -1000000011, 0, []) else TN) else (bif Nat.beq pc 30 then (.ireturn, 31, (0, 0, 0), 0, 0, []) else TN)) else (bif Nat.blt pc 32 then (bif Nat.beq pc 31 then (.iconst 0, 32, (0, 0, 0), 0, 0, []) else TN) else (bif Nat.beq pc 32 then (.istore_n 3, 33, (3, 0, 0), 0, 0, []) else TN))) else (bif Nat.blt pc 36 then (bif Nat.blt pc 34 then (bif Nat.beq pc 33 then (.iconst 0, 34, (0, 0, 0), 0, 0, []) else TN) else (bif Nat.beq pc 34 then (.istore 4, 36, (4, 0, 0), 0, 0, []) else TN)) else (bif Nat.blt pc 38 then (bif Nat.beq pc 36 then (.iload 4, 38, (4, 0, 0), 0, 0, []) else TN) else (bif Nat.beq pc 38 then (.aload_n 0, 39, (0, 0, 0), 0, 0, []) else TN)))) else (bif Nat.blt pc 47 then (bif Nat.blt pc 43 then (bif Nat.blt pc 42 then (bif Nat.beq pc 39 then (.getfield 101, 42, (12, 41, 0), 0, 0, []) else TN) else (bif Nat.beq pc 42 then (.iload_n 2, 43, (2, 0, 0), 0, 0, []) else TN)) else (bif Nat.blt pc 44 then (bif Nat.beq pc 43 then (.iaload, 44, (0, 0, 0), 0, 0, []) else TN) else (bif Nat.beq pc 44 then (.if_icmp .ge 66, 47, (110, 0, 0), 0, 0, []) else TN))) else (bif Nat.blt pc 51 then (bif Nat.blt pc 48 then (bif Nat.beq pc 47 then (.aload_n 0, 48, (0, 0, 0), 0, 0, []) else TN) else (bif Nat.beq pc 48 then (.getfield 182, 51, (12, 13, 0), 0, 0, []) else TN)) else (bif Nat.blt pc 53 then (bif Nat.beq pc 51 then (.bipush 40, 53, (0, 0, 0), 40, 0, []) else TN) else (bif Nat.beq pc 53 then (.if_icmp .ge 57, 56, (110, 0, 0), 0, 0, []) else TN)))))) else (bif Nat.blt pc 83 then (bif Nat.blt pc 67 then (bif Nat.blt pc 62 then (bif Nat.blt pc 57 then (bif Nat.beq pc 56 then (.aload_n 0, 57, (0, 0, 0), 0, 0, []) else TN) else (bif Nat.blt pc 60 then (bif Nat.beq pc 57 then (.getfield 104, 60, (12, 42, 0), 0, 0, []) else TN) else (bif Nat.beq pc 60 then (.bipush 40, 62, (0, 0, 0), 40, 0, []) else TN))) else (bif Nat.blt pc 64 then (bif Nat.blt pc 63 then (bif Nat.beq pc 62 then (.iload_n 2, 63, (2, 0, 0), 0, 0, []) else TN) else (bif Nat.beq pc 63 then (.imul, 64, (0, 0, 0), 0, 0, []) else TN)) else (bif Nat.blt pc 66 then (bif Nat.beq pc 64 then (.iload 4, 66, (4, 0, 0), 0, 0, []) else TN) else (bif Nat.beq pc 66 then (.iadd, 67, (0, 0, 0), 0, 0, []) else TN)))) else (bif Nat.blt pc 73 then (bif Nat.blt pc 70 then (bif Nat.blt pc 68 then (bif Nat.beq pc 67 then (.saload, 68, (0, 0, 0), 0, 0, []) else TN) else (bif Nat.beq pc 68 then (.istore 5, 70, (5, 0, 0), 0, 0, []) else TN)) else (bif Nat.blt pc 71 then (bif Nat.beq pc 70 then (.iload_n 3, 71, (3, 0, 0), 0, 0, []) else TN) else (bif Nat.beq pc 71 then (.iload 5, 73, (5, 0, 0), 0, 0, []) else TN))) else (bif Nat.blt pc 77 then (bif Nat.blt pc 74 then (bif Nat.beq pc 73 then (.iconst 0, 74, (0, 0, 0), 0, 0, []) else TN) else (bif Nat.beq pc 74 then (.sipush 9999, 77, (0, 0, 0), 9999, 0, []) else TN)) else (bif Nat.blt pc 80 then (bif Nat.beq pc 77 then (.invokestatic 146, 80, (147, 3, 0), 0, 0, []) else TN) else (bif Nat.beq pc 80 then (.ifCond .eq 21, 83, (101, 0, 0), 0, 0, []) else TN))))) else (bif Nat.blt pc 98 then (bif Nat.blt pc 90 then (bif Nat.blt pc 86 then (bif Nat.blt pc 84 then (bif Nat.beq pc 83 then (.aload_n 0, 84, (0, 0, 0), 0, 0, []) else TN) else (bif Nat.beq pc 84 then (.iload 5, 86, (5, 0, 0), 0, 0, []) else TN)) else (bif Nat.blt pc 87 then (bif Nat.beq pc 86 then (.iload_n 1, 87, (1, 0, 0), 0, 0, []) else TN) else (bif Nat.beq pc 87 then (.invokevirtual 189, 90, (173, 2, 12), 0, 0, []) else TN))) else (bif Nat.blt pc 94 then (bif Nat.blt pc 93 then (bif Nat.beq pc 90 then (.ifCond .lt 7, 93, (97, 0, 0), 0, 0, []) else TN) else (bif Nat.beq pc 93 then (.iconst 1, 94, (0, 0, 0), 1, 0, []) else TN)) else (bif Nat.blt pc 97 then (bif Nat.beq pc 94 then (.goto 8, 97, (102, 0, 0), 0, 0, []) else TN) else (bif Nat.beq pc 97 then (.iconst 0, 98, (0, 0, 0), 0, 0, []) else TN)))) else (bif Nat.blt pc 104 then (bif Nat.blt pc 102 then (bif Nat.blt pc 101 then (bif Nat.beq pc 98 then (.goto 4, 101, (102, 0, 0), 0, 0, []) else TN) else (bif Nat.beq pc 101 then (.iconst 0, 102, (0, 0, 0), 0, 0, []) else TN)) else (bif Nat.blt pc 103 then (bif Nat.beq pc 102 then (.iadd, 103, (0, 0, 0), 0, 0, []) else TN) else (bif Nat.beq pc 103 then (.istore_n 3, 104, (3, 0, 0), 0, 0, []) else TN))) else (bif Nat.blt pc 110 then (bif Nat.blt pc 107 then (bif Nat.beq pc 104 then (.iinc 4 1, 107, (4, 0, 0), 1, 0, []) else TN) else (bif Nat.beq pc 107 then (.goto (-71), 110, (36, 0, 0), 0, 0, []) else TN)) else (bif Nat.blt pc 111 then (bif Nat.beq pc 110 then (.iload_n 3, 111, (3, 0, 0), 0, 0, []) else TN) else (bif Nat.beq pc 111 then (.ireturn, 112, (0, 0, 0), 0, 0, []) else TN))))))
def tb_X12_roll (pc : Nat) : TI := bif Nat.ble 112 pc then TN else tt_X12_roll pc
theorem ok_X12_roll : tOK 12 (decide ("roll" = "<init>")) cX12_roll tb_X12_roll := tOK_of 112 tn_of (by decide +kernel)
def f_X12_roll_102 (c36 : Lay → Sto → Nat → Int32 → Int32 → Int32 → Int32 → Option (Int32 × Sto)) (L : Lay) (σ : Sto) (a0 : Nat) (a1 : Int32) (a2 : Int32) (a4 : Int32) (s0 : Int32) (s1 : Int32) : Option (Int32 × Sto) := c36 L σ a0 a1 a2 (s1 + s0) (a4 + 1)
def A_X12_roll_102 (c : Lay → Sto → Nat → Int32 → Int32 → Int32 → Int32 → Int32 → Option (Int32 × Sto)) (lc : List (Option AV)) (st : List AV) (L : Lay) (σ : Sto) : Option (Int32 × Sto) := match lc, st with
  | [some (.inr (.inr (.inl (ta0, some a0)))), some (.inl a1), some (.inl a2), _, some (.inl a4), _], [.inl s0, .inl s1] => bif Nat.beq ta0 12 && true then c L σ a0 a1 a2 a4 s0 s1 else none
  | _, _ => none
def f_X12_roll_36 : Nat → Lay → Sto → Nat → Int32 → Int32 → Int32 → Int32 → Option (Int32 × Sto)
  | 0 => fun _ _ _ _ _ _ _ => none
  | k + 1 => fun L σ a0 a1 a2 a3 a4 => (σ.2.1 a0 41).bind fun x1 => (rI L σ x1 a2).bind fun v2 => (if v2 ≤ a4 then some (a3, σ) else (if 40 ≤ (σ.1 a0 13) then some (a3, σ) else (σ.2.1 a0 42).bind fun x3 => (rI L σ x3 ((40 * a2) + a4)).bind fun v4 => (f_X12_in L σ v4 0 9999).bind fun r5 => (if r5 = 0 then (f_X12_roll_102 (f_X12_roll_36 k)) L σ a0 a1 a2 a4 0 a3 else (f_X12_line L σ a0 v4 a1).bind fun r6 => (if r6.1 < 0 then (f_X12_roll_102 (f_X12_roll_36 k)) L r6.2 a0 a1 a2 a4 0 a3 else (f_X12_roll_102 (f_X12_roll_36 k)) L r6.2 a0 a1 a2 a4 1 a3))))
def A_X12_roll_36 (c : Lay → Sto → Nat → Int32 → Int32 → Int32 → Int32 → Option (Int32 × Sto)) (lc : List (Option AV)) (st : List AV) (L : Lay) (σ : Sto) : Option (Int32 × Sto) := match lc, st with
  | [some (.inr (.inr (.inl (ta0, some a0)))), some (.inl a1), some (.inl a2), some (.inl a3), some (.inl a4), _], [] => bif Nat.beq ta0 12 && true then c L σ a0 a1 a2 a3 a4 else none
  | _, _ => none
def f_X12_roll (L : Lay) (σ : Sto) (a0 : Nat) (a1 : Int32) (a2 : Int32) : Option (Int32 × Sto) := (f_X12_isBranch L σ a0 a1).bind fun r7 => (if r7 = 0 then some ((-1000000001), σ) else (f_X12_isSheet L σ a2).bind fun r8 => (if r8 = 0 then some ((-1000000001), σ) else (σ.2.1 a0 41).bind fun x9 => (rI L σ x9 a2).bind fun v10 => (if v10 = (-1) then some ((-1000000011), σ) else (f_X12_roll_36 FU) L σ a0 a1 a2 0 0)))
def ad_X12_roll : ADT := fun O L σ as k => match as with
  | [.inr (.inr (.inl (ta0, some a0))), .inl a1, .inl a2] => bif Nat.beq ta0 12 && true then (f_X12_roll L σ a0 a1 a2).bind fun r => k (some (vI r.1)) L r.2 else none
  | _ => none
abbrev cl_X12_roll {O : Type} : CLT O := (clc 147 ad_X12_in (clc 173 ad_X12_line (clc 150 ad_X12_isBranch (clc 161 ad_X12_isSheet cl0))))
theorem hc_X12_roll (G : GT) (l : Launch) {d : Nat} (hd : 4 ≤ d) {O : Type} : HCL G l (true, false) d (cl_X12_roll (O := O)) := (hclc (ca_X12_in G l (d := 1) (Nat.le_refl _)) (fun _ => rfl) (fun e => by cases e) (by omega) (hclc (ca_X12_line G l (d := 3) (Nat.le_refl _)) (fun _ => rfl) (fun e => by cases e) (by omega) (hclc (ca_X12_isBranch G l (d := 2) (Nat.le_refl _)) (fun _ => rfl) (fun e => by cases e) (by omega) (hclc (ca_X12_isSheet G l (d := 2) (Nat.le_refl _)) (fun _ => rfl) (fun e => by cases e) (by omega) hcl0))))
theorem rt_X12_roll : retOK (0, 0) (some .int) := ⟨fun _ => rfl, fun h => absurd h (by decide), fun h => absurd h (by decide)⟩
set_option maxRecDepth 20000 in
theorem b_X12_roll_102 {G : GT} {l : Launch} {d : Nat} {L0 : Lay} {σ0 : Sto} (hd : 4 ≤ d) {c36 : Lay → Sto → Nat → Int32 → Int32 → Int32 → Int32 → Option (Int32 × Sto)} (h36 : HF G l 12 "roll" cX12_roll 6 (some .int) d L0 σ0 (true, false) (dcI L0) 36 (A_X12_roll_36 c36)) : HF G l 12 "roll" cX12_roll 6 (some .int) d L0 σ0 (true, false) (dcI L0) 102 (A_X12_roll_102 (f_X12_roll_102 c36)) := by
  intro lc st L σ o h hI
  unfold A_X12_roll_102 at h
  split at h
  · obtain ⟨hq0, hA1⟩ := bif_s h
    obtain ⟨e0, hq1⟩ := beq_and hq0
    subst e0
    exact exs (sp := [36]) (K := (kc 36 (A_X12_roll_36 c36) k0)) ok_X12_roll rt_X12_roll (by omega) (hc_X12_roll G l hd) (hrI rfl) (hkc h36 hk0) 65 hA1 hI
  · cases h
set_option maxRecDepth 20000 in
theorem b_X12_roll_36 {G : GT} {l : Launch} {d : Nat} {L0 : Lay} {σ0 : Sto} (hd : 4 ≤ d) : ∀ k : Nat, HF G l 12 "roll" cX12_roll 6 (some .int) d L0 σ0 (true, false) (dcI L0) 36 (A_X12_roll_36 (f_X12_roll_36 k))
  | 0 => by
    intro lc st L σ o h hI
    unfold A_X12_roll_36 at h
    split at h
    · obtain ⟨_, hA1⟩ := bif_s h
      cases hA1
    · cases h
  | k + 1 => by
    have ih := b_X12_roll_36 (G := G) (l := l) (d := d) (L0 := L0) (σ0 := σ0) hd k
    intro lc st L σ o h hI
    unfold A_X12_roll_36 at h
    split at h
    · obtain ⟨hq0, hA1⟩ := bif_s h
      obtain ⟨e0, hq1⟩ := beq_and hq0
      subst e0
      exact exs (sp := [102]) (K := (kc 102 (A_X12_roll_102 (f_X12_roll_102 (f_X12_roll_36 k))) k0)) ok_X12_roll rt_X12_roll (by omega) (hc_X12_roll G l hd) (hrI rfl) (hkc (b_X12_roll_102 hd ih) hk0) 65 hA1 hI
    · cases h
set_option maxRecDepth 20000 in
theorem ca_X12_roll (G : GT) (l : Launch) {d : Nat} (hd : 4 ≤ d) : CA G l 198 (true, false) d ad_X12_roll := by
  intro O L σ as k o h hW hok
  unfold ad_X12_roll at h
  split at h
  · obtain ⟨hq0, hA0⟩ := bif_s h
    obtain ⟨e0, hq1⟩ := beq_and hq0
    subst e0
    obtain ⟨r, hr, hk⟩ := Option.bind_eq_some_iff.mp hA0
    exact ca_of (q := (dcI L) r) (by decide) rfl (Nat.le_of_ble_eq_true rfl) hk (fun _ => rfl) (fun e => by cases e) (exs (sp := [36]) (K := (kc 36 (A_X12_roll_36 (f_X12_roll_36 FU)) k0)) (L0 := L) (σ0 := σ) ok_X12_roll rt_X12_roll (by omega) (hc_X12_roll G l hd) (hrI rfl) (hkc (b_X12_roll_36 hd FU) hk0) 65 hr (inv0 hW hok))
  · cases h
def tt_X12_rolls (pc : Nat) : TI := bif Nat.blt pc 92 then (bif Nat.blt pc 44 then (bif Nat.blt pc 21 then (bif Nat.blt pc 10 then (bif Nat.blt pc 5 then (bif Nat.blt pc 1 then (bif Nat.beq pc 0 then (.aload_n 0, 1, (0, 0, 0), 0, 0, []) else TN) else (bif Nat.blt pc 2 then (bif Nat.beq pc 1 then (.iload_n 1, 2, (1, 0, 0), 0, 0, []) else TN) else (bif Nat.beq pc 2 then (.invokevirtual 158, 5, (150, 1, 12), 0, 0, []) else TN))) else (bif Nat.blt pc 8 then (bif Nat.beq pc 5 then (.ifCond .eq 12, 8, (17, 0, 0), 0, 0, []) else TN) else (bif Nat.blt pc 9 then (bif Nat.beq pc 8 then (.iload_n 2, 9, (2, 0, 0), 0, 0, []) else TN) else (bif Nat.beq pc 9 then (.iconst 0, 10, (0, 0, 0), 0, 0, []) else TN)))) else (bif Nat.blt pc 17 then (bif Nat.blt pc 11 then (bif Nat.beq pc 10 then (.iconst 4, 11, (0, 0, 0), 4, 0, []) else TN) else (bif Nat.blt pc 14 then (bif Nat.beq pc 11 then (.invokestatic 146, 14, (147, 3, 0), 0, 0, []) else TN) else (bif Nat.beq pc 14 then (.ifCond .ne 6, 17, (20, 0, 0), 0, 0, []) else TN))) else (bif Nat.blt pc 19 then (bif Nat.beq pc 17 then (.ldc 156, 19, (0, 0, 0), -1000000001, 0, []) else TN) else (bif Nat.blt pc 20 then (bif Nat.beq pc 19 then (.ireturn, 20, (0, 0, 0), 0, 0, []) else TN) else (bif Nat.beq pc 20 then (.aload_n 0, 21, (0, 0, 0), 0, 0, []) else TN))))) else (bif Nat.blt pc 31 then (bif Nat.blt pc 26 then (bif Nat.blt pc 24 then (bif Nat.beq pc 21 then (.invokevirtual 199, 24, (168, 0, 12), 0, 0, []) else TN) else (bif Nat.blt pc 25 then (bif Nat.beq pc 24 then (.iconst 0, 25, (0, 0, 0), 0, 0, []) else TN) else (bif Nat.beq pc 25 then (.istore_n 3, 26, (3, 0, 0), 0, 0, []) else TN))) else (bif Nat.blt pc 27 then (bif Nat.beq pc 26 then (.iconst 0, 27, (0, 0, 0), 0, 0, []) else TN) else (bif Nat.blt pc 29 then (bif Nat.beq pc 27 then (.istore 4, 29, (4, 0, 0), 0, 0, []) else TN) else (bif Nat.beq pc 29 then (.iload 4, 31, (4, 0, 0), 0, 0, []) else TN)))) else (bif Nat.blt pc 38 then (bif Nat.blt pc 32 then (bif Nat.beq pc 31 then (.aload_n 0, 32, (0, 0, 0), 0, 0, []) else TN) else (bif Nat.blt pc 35 then (bif Nat.beq pc 32 then (.getfield 150, 35, (12, 4, 0), 0, 0, []) else TN) else (bif Nat.beq pc 35 then (.if_icmp .ge 54, 38, (89, 0, 0), 0, 0, []) else TN))) else (bif Nat.blt pc 42 then (bif Nat.blt pc 39 then (bif Nat.beq pc 38 then (.iload_n 2, 39, (2, 0, 0), 0, 0, []) else TN) else (bif Nat.beq pc 39 then (.ifCond .eq 8, 42, (47, 0, 0), 0, 0, []) else TN)) else (bif Nat.blt pc 43 then (bif Nat.beq pc 42 then (.iload_n 2, 43, (2, 0, 0), 0, 0, []) else TN) else (bif Nat.beq pc 43 then (.iconst 4, 44, (0, 0, 0), 4, 0, []) else TN)))))) else (bif Nat.blt pc 67 then (bif Nat.blt pc 55 then (bif Nat.blt pc 49 then (bif Nat.blt pc 47 then (bif Nat.beq pc 44 then (.if_icmp .ne 45, 47, (89, 0, 0), 0, 0, []) else TN) else (bif Nat.blt pc 48 then (bif Nat.beq pc 47 then (.iload_n 3, 48, (3, 0, 0), 0, 0, []) else TN) else (bif Nat.beq pc 48 then (.aload_n 0, 49, (0, 0, 0), 0, 0, []) else TN))) else (bif Nat.blt pc 51 then (bif Nat.beq pc 49 then (.iload 4, 51, (4, 0, 0), 0, 0, []) else TN) else (bif Nat.blt pc 52 then (bif Nat.beq pc 51 then (.aload_n 0, 52, (0, 0, 0), 0, 0, []) else TN) else (bif Nat.beq pc 52 then (.getfield 166, 55, (12, 1, 0), 0, 0, []) else TN)))) else (bif Nat.blt pc 62 then (bif Nat.blt pc 58 then (bif Nat.beq pc 55 then (.invokevirtual 178, 58, (187, 2, 12), 0, 0, []) else TN) else (bif Nat.blt pc 59 then (bif Nat.beq pc 58 then (.iload_n 1, 59, (1, 0, 0), 0, 0, []) else TN) else (bif Nat.beq pc 59 then (.if_icmp .ne 21, 62, (80, 0, 0), 0, 0, []) else TN))) else (bif Nat.blt pc 63 then (bif Nat.beq pc 62 then (.iload_n 2, 63, (2, 0, 0), 0, 0, []) else TN) else (bif Nat.blt pc 66 then (bif Nat.beq pc 63 then (.ifCond .eq 13, 66, (76, 0, 0), 0, 0, []) else TN) else (bif Nat.beq pc 66 then (.aload_n 0, 67, (0, 0, 0), 0, 0, []) else TN))))) else (bif Nat.blt pc 80 then (bif Nat.blt pc 73 then (bif Nat.blt pc 70 then (bif Nat.beq pc 67 then (.getfield 115, 70, (12, 45, 0), 0, 0, []) else TN) else (bif Nat.blt pc 72 then (bif Nat.beq pc 70 then (.iload 4, 72, (4, 0, 0), 0, 0, []) else TN) else (bif Nat.beq pc 72 then (.baload, 73, (0, 0, 0), 0, 0, []) else TN))) else (bif Nat.blt pc 76 then (bif Nat.beq pc 73 then (.ifCond .ne 7, 76, (80, 0, 0), 0, 0, []) else TN) else (bif Nat.blt pc 77 then (bif Nat.beq pc 76 then (.iconst 1, 77, (0, 0, 0), 1, 0, []) else TN) else (bif Nat.beq pc 77 then (.goto 4, 80, (81, 0, 0), 0, 0, []) else TN)))) else (bif Nat.blt pc 83 then (bif Nat.blt pc 81 then (bif Nat.beq pc 80 then (.iconst 0, 81, (0, 0, 0), 0, 0, []) else TN) else (bif Nat.blt pc 82 then (bif Nat.beq pc 81 then (.iadd, 82, (0, 0, 0), 0, 0, []) else TN) else (bif Nat.beq pc 82 then (.istore_n 3, 83, (3, 0, 0), 0, 0, []) else TN))) else (bif Nat.blt pc 89 then (bif Nat.blt pc 86 then (bif Nat.beq pc 83 then (.iinc 4 1, 86, (4, 0, 0), 1, 0, []) else TN) else (bif Nat.beq pc 86 then (.goto (-57), 89, (29, 0, 0), 0, 0, []) else TN)) else (bif Nat.blt pc 90 then (bif Nat.beq pc 89 then (.iconst 0, 90, (0, 0, 0), 0, 0, []) else TN) else (bif Nat.beq pc 90 then (.istore 4, 92, (4, 0, 0), 0, 0, []) else TN))))))) else (bif Nat.blt pc 138 then (bif Nat.blt pc 115 then (bif Nat.blt pc 103 then (bif Nat.blt pc 98 then (bif Nat.blt pc 94 then (bif Nat.beq pc 92 then (.iload 4, 94, (4, 0, 0), 0, 0, []) else TN) else (bif Nat.blt pc 95 then (bif Nat.beq pc 94 then (.aload_n 0, 95, (0, 0, 0), 0, 0, []) else TN) else (bif Nat.beq pc 95 then (.getfield 182, 98, (12, 13, 0), 0, 0, []) else TN))) else (bif Nat.blt pc 101 then (bif Nat.beq pc 98 then (.if_icmp .ge 85, 101, (183, 0, 0), 0, 0, []) else TN) else (bif Nat.blt pc 102 then (bif Nat.beq pc 101 then (.iload_n 2, 102, (2, 0, 0), 0, 0, []) else TN) else (bif Nat.beq pc 102 then (.iconst 1, 103, (0, 0, 0), 1, 0, []) else TN)))) else (bif Nat.blt pc 110 then (bif Nat.blt pc 104 then (bif Nat.beq pc 103 then (.iconst 3, 104, (0, 0, 0), 3, 0, []) else TN) else (bif Nat.blt pc 107 then (bif Nat.beq pc 104 then (.invokestatic 146, 107, (147, 3, 0), 0, 0, []) else TN) else (bif Nat.beq pc 107 then (.ifCond .eq 76, 110, (183, 0, 0), 0, 0, []) else TN))) else (bif Nat.blt pc 111 then (bif Nat.beq pc 110 then (.iload_n 2, 111, (2, 0, 0), 0, 0, []) else TN) else (bif Nat.blt pc 112 then (bif Nat.beq pc 111 then (.iconst 1, 112, (0, 0, 0), 1, 0, []) else TN) else (bif Nat.beq pc 112 then (.if_icmp .eq 34, 115, (146, 0, 0), 0, 0, []) else TN))))) else (bif Nat.blt pc 126 then (bif Nat.blt pc 121 then (bif Nat.blt pc 116 then (bif Nat.beq pc 115 then (.aload_n 0, 116, (0, 0, 0), 0, 0, []) else TN) else (bif Nat.blt pc 119 then (bif Nat.beq pc 116 then (.getfield 108, 119, (12, 43, 0), 0, 0, []) else TN) else (bif Nat.beq pc 119 then (.iload 4, 121, (4, 0, 0), 0, 0, []) else TN))) else (bif Nat.blt pc 122 then (bif Nat.beq pc 121 then (.iaload, 122, (0, 0, 0), 0, 0, []) else TN) else (bif Nat.blt pc 123 then (bif Nat.beq pc 122 then (.iconst (-1), 123, (0, 0, 0), -1, 0, []) else TN) else (bif Nat.beq pc 123 then (.if_icmp .eq 27, 126, (150, 0, 0), 0, 0, []) else TN)))) else (bif Nat.blt pc 132 then (bif Nat.blt pc 127 then (bif Nat.beq pc 126 then (.aload_n 0, 127, (0, 0, 0), 0, 0, []) else TN) else (bif Nat.blt pc 130 then (bif Nat.beq pc 127 then (.getfield 111, 130, (12, 44, 0), 0, 0, []) else TN) else (bif Nat.beq pc 130 then (.iload 4, 132, (4, 0, 0), 0, 0, []) else TN))) else (bif Nat.blt pc 134 then (bif Nat.blt pc 133 then (bif Nat.beq pc 132 then (.baload, 133, (0, 0, 0), 0, 0, []) else TN) else (bif Nat.beq pc 133 then (.iload_n 2, 134, (2, 0, 0), 0, 0, []) else TN)) else (bif Nat.blt pc 135 then (bif Nat.beq pc 134 then (.iconst 2, 135, (0, 0, 0), 2, 0, []) else TN) else (bif Nat.beq pc 135 then (.if_icmp .ne 7, 138, (142, 0, 0), 0, 0, []) else TN)))))) else (bif Nat.blt pc 161 then (bif Nat.blt pc 150 then (bif Nat.blt pc 143 then (bif Nat.blt pc 139 then (bif Nat.beq pc 138 then (.iconst 1, 139, (0, 0, 0), 1, 0, []) else TN) else (bif Nat.blt pc 142 then (bif Nat.beq pc 139 then (.goto 4, 142, (143, 0, 0), 0, 0, []) else TN) else (bif Nat.beq pc 142 then (.iconst 0, 143, (0, 0, 0), 0, 0, []) else TN))) else (bif Nat.blt pc 146 then (bif Nat.beq pc 143 then (.if_icmp .ne 7, 146, (150, 0, 0), 0, 0, []) else TN) else (bif Nat.blt pc 147 then (bif Nat.beq pc 146 then (.iconst 1, 147, (0, 0, 0), 1, 0, []) else TN) else (bif Nat.beq pc 147 then (.goto 4, 150, (151, 0, 0), 0, 0, []) else TN)))) else (bif Nat.blt pc 154 then (bif Nat.blt pc 151 then (bif Nat.beq pc 150 then (.iconst 0, 151, (0, 0, 0), 0, 0, []) else TN) else (bif Nat.blt pc 153 then (bif Nat.beq pc 151 then (.istore 5, 153, (5, 0, 0), 0, 0, []) else TN) else (bif Nat.beq pc 153 then (.iload_n 3, 154, (3, 0, 0), 0, 0, []) else TN))) else (bif Nat.blt pc 158 then (bif Nat.blt pc 155 then (bif Nat.beq pc 154 then (.aload_n 0, 155, (0, 0, 0), 0, 0, []) else TN) else (bif Nat.beq pc 155 then (.getfield 40, 158, (12, 15, 0), 0, 0, []) else TN)) else (bif Nat.blt pc 160 then (bif Nat.beq pc 158 then (.iload 4, 160, (4, 0, 0), 0, 0, []) else TN) else (bif Nat.beq pc 160 then (.iaload, 161, (0, 0, 0), 0, 0, []) else TN))))) else (bif Nat.blt pc 174 then (bif Nat.blt pc 167 then (bif Nat.blt pc 162 then (bif Nat.beq pc 161 then (.iload_n 1, 162, (1, 0, 0), 0, 0, []) else TN) else (bif Nat.blt pc 165 then (bif Nat.beq pc 162 then (.if_icmp .ne 12, 165, (174, 0, 0), 0, 0, []) else TN) else (bif Nat.beq pc 165 then (.iload 5, 167, (5, 0, 0), 0, 0, []) else TN))) else (bif Nat.blt pc 170 then (bif Nat.beq pc 167 then (.ifCond .eq 7, 170, (174, 0, 0), 0, 0, []) else TN) else (bif Nat.blt pc 171 then (bif Nat.beq pc 170 then (.iconst 1, 171, (0, 0, 0), 1, 0, []) else TN) else (bif Nat.beq pc 171 then (.goto 4, 174, (175, 0, 0), 0, 0, []) else TN)))) else (bif Nat.blt pc 177 then (bif Nat.blt pc 175 then (bif Nat.beq pc 174 then (.iconst 0, 175, (0, 0, 0), 0, 0, []) else TN) else (bif Nat.blt pc 176 then (bif Nat.beq pc 175 then (.iadd, 176, (0, 0, 0), 0, 0, []) else TN) else (bif Nat.beq pc 176 then (.istore_n 3, 177, (3, 0, 0), 0, 0, []) else TN))) else (bif Nat.blt pc 183 then (bif Nat.blt pc 180 then (bif Nat.beq pc 177 then (.iinc 4 1, 180, (4, 0, 0), 1, 0, []) else TN) else (bif Nat.beq pc 180 then (.goto (-88), 183, (92, 0, 0), 0, 0, []) else TN)) else (bif Nat.blt pc 184 then (bif Nat.beq pc 183 then (.iload_n 3, 184, (3, 0, 0), 0, 0, []) else TN) else (bif Nat.beq pc 184 then (.ireturn, 185, (0, 0, 0), 0, 0, []) else TN)))))))
def tb_X12_rolls (pc : Nat) : TI := bif Nat.ble 185 pc then TN else tt_X12_rolls pc
theorem ok_X12_rolls : tOK 12 (decide ("rolls" = "<init>")) cX12_rolls tb_X12_rolls := tOK_of 185 tn_of (by decide +kernel)
def f_X12_rolls_81 (c29 : Lay → Sto → Nat → Int32 → Int32 → Int32 → Int32 → Option (Int32 × Sto)) (L : Lay) (σ : Sto) (a0 : Nat) (a1 : Int32) (a2 : Int32) (a4 : Int32) (s0 : Int32) (s1 : Int32) : Option (Int32 × Sto) := c29 L σ a0 a1 a2 (s1 + s0) (a4 + 1)
def A_X12_rolls_81 (c : Lay → Sto → Nat → Int32 → Int32 → Int32 → Int32 → Int32 → Option (Int32 × Sto)) (lc : List (Option AV)) (st : List AV) (L : Lay) (σ : Sto) : Option (Int32 × Sto) := match lc, st with
  | [some (.inr (.inr (.inl (ta0, some a0)))), some (.inl a1), some (.inl a2), _, some (.inl a4), _], [.inl s0, .inl s1] => bif Nat.beq ta0 12 && true then c L σ a0 a1 a2 a4 s0 s1 else none
  | _, _ => none
def f_X12_rolls_76 (c29 : Lay → Sto → Nat → Int32 → Int32 → Int32 → Int32 → Option (Int32 × Sto)) (L : Lay) (σ : Sto) (a0 : Nat) (a1 : Int32) (a2 : Int32) (a4 : Int32) (s0 : Int32) : Option (Int32 × Sto) := (f_X12_rolls_81 c29) L σ a0 a1 a2 a4 1 s0
def A_X12_rolls_76 (c : Lay → Sto → Nat → Int32 → Int32 → Int32 → Int32 → Option (Int32 × Sto)) (lc : List (Option AV)) (st : List AV) (L : Lay) (σ : Sto) : Option (Int32 × Sto) := match lc, st with
  | [some (.inr (.inr (.inl (ta0, some a0)))), some (.inl a1), some (.inl a2), _, some (.inl a4), _], [.inl s0] => bif Nat.beq ta0 12 && true then c L σ a0 a1 a2 a4 s0 else none
  | _, _ => none
def f_X12_rolls_80 (c29 : Lay → Sto → Nat → Int32 → Int32 → Int32 → Int32 → Option (Int32 × Sto)) (L : Lay) (σ : Sto) (a0 : Nat) (a1 : Int32) (a2 : Int32) (a4 : Int32) (s0 : Int32) : Option (Int32 × Sto) := (f_X12_rolls_81 c29) L σ a0 a1 a2 a4 0 s0
def A_X12_rolls_80 (c : Lay → Sto → Nat → Int32 → Int32 → Int32 → Int32 → Option (Int32 × Sto)) (lc : List (Option AV)) (st : List AV) (L : Lay) (σ : Sto) : Option (Int32 × Sto) := match lc, st with
  | [some (.inr (.inr (.inl (ta0, some a0)))), some (.inl a1), some (.inl a2), _, some (.inl a4), _], [.inl s0] => bif Nat.beq ta0 12 && true then c L σ a0 a1 a2 a4 s0 else none
  | _, _ => none
def f_X12_rolls_47 (c29 : Lay → Sto → Nat → Int32 → Int32 → Int32 → Int32 → Option (Int32 × Sto)) (L : Lay) (σ : Sto) (a0 : Nat) (a1 : Int32) (a2 : Int32) (a3 : Int32) (a4 : Int32) : Option (Int32 × Sto) := (f_X12_ofOn L σ a0 a4 (σ.1 a0 1)).bind fun r1 => (if r1 = a1 then (if a2 = 0 then (f_X12_rolls_76 c29) L σ a0 a1 a2 a4 a3 else (σ.2.1 a0 45).bind fun x2 => (rI L σ x2 a4).bind fun v3 => (if v3 = 0 then (f_X12_rolls_76 c29) L σ a0 a1 a2 a4 a3 else (f_X12_rolls_80 c29) L σ a0 a1 a2 a4 a3)) else (f_X12_rolls_80 c29) L σ a0 a1 a2 a4 a3)
def A_X12_rolls_47 (c : Lay → Sto → Nat → Int32 → Int32 → Int32 → Int32 → Option (Int32 × Sto)) (lc : List (Option AV)) (st : List AV) (L : Lay) (σ : Sto) : Option (Int32 × Sto) := match lc, st with
  | [some (.inr (.inr (.inl (ta0, some a0)))), some (.inl a1), some (.inl a2), some (.inl a3), some (.inl a4), _], [] => bif Nat.beq ta0 12 && true then c L σ a0 a1 a2 a3 a4 else none
  | _, _ => none
def f_X12_rolls_175 (c92 : Lay → Sto → Nat → Int32 → Int32 → Int32 → Int32 → Option (Int32 × Sto)) (L : Lay) (σ : Sto) (a0 : Nat) (a1 : Int32) (a2 : Int32) (a4 : Int32) (s0 : Int32) (s1 : Int32) : Option (Int32 × Sto) := c92 L σ a0 a1 a2 (s1 + s0) (a4 + 1)
def A_X12_rolls_175 (c : Lay → Sto → Nat → Int32 → Int32 → Int32 → Int32 → Int32 → Option (Int32 × Sto)) (lc : List (Option AV)) (st : List AV) (L : Lay) (σ : Sto) : Option (Int32 × Sto) := match lc, st with
  | [some (.inr (.inr (.inl (ta0, some a0)))), some (.inl a1), some (.inl a2), _, some (.inl a4), _], [.inl s0, .inl s1] => bif Nat.beq ta0 12 && true then c L σ a0 a1 a2 a4 s0 s1 else none
  | _, _ => none
def f_X12_rolls_174 (c92 : Lay → Sto → Nat → Int32 → Int32 → Int32 → Int32 → Option (Int32 × Sto)) (L : Lay) (σ : Sto) (a0 : Nat) (a1 : Int32) (a2 : Int32) (a4 : Int32) (s0 : Int32) : Option (Int32 × Sto) := (f_X12_rolls_175 c92) L σ a0 a1 a2 a4 0 s0
def A_X12_rolls_174 (c : Lay → Sto → Nat → Int32 → Int32 → Int32 → Int32 → Option (Int32 × Sto)) (lc : List (Option AV)) (st : List AV) (L : Lay) (σ : Sto) : Option (Int32 × Sto) := match lc, st with
  | [some (.inr (.inr (.inl (ta0, some a0)))), some (.inl a1), some (.inl a2), _, some (.inl a4), _], [.inl s0] => bif Nat.beq ta0 12 && true then c L σ a0 a1 a2 a4 s0 else none
  | _, _ => none
def f_X12_rolls_151 (c92 : Lay → Sto → Nat → Int32 → Int32 → Int32 → Int32 → Option (Int32 × Sto)) (L : Lay) (σ : Sto) (a0 : Nat) (a1 : Int32) (a2 : Int32) (a3 : Int32) (a4 : Int32) (s0 : Int32) : Option (Int32 × Sto) := (σ.2.1 a0 15).bind fun x4 => (rI L σ x4 a4).bind fun v5 => (if v5 = a1 then (if s0 = 0 then (f_X12_rolls_174 c92) L σ a0 a1 a2 a4 a3 else (f_X12_rolls_175 c92) L σ a0 a1 a2 a4 1 a3) else (f_X12_rolls_174 c92) L σ a0 a1 a2 a4 a3)
def A_X12_rolls_151 (c : Lay → Sto → Nat → Int32 → Int32 → Int32 → Int32 → Int32 → Option (Int32 × Sto)) (lc : List (Option AV)) (st : List AV) (L : Lay) (σ : Sto) : Option (Int32 × Sto) := match lc, st with
  | [some (.inr (.inr (.inl (ta0, some a0)))), some (.inl a1), some (.inl a2), some (.inl a3), some (.inl a4), _], [.inl s0] => bif Nat.beq ta0 12 && true then c L σ a0 a1 a2 a3 a4 s0 else none
  | _, _ => none
def f_X12_rolls_146 (c92 : Lay → Sto → Nat → Int32 → Int32 → Int32 → Int32 → Option (Int32 × Sto)) (L : Lay) (σ : Sto) (a0 : Nat) (a1 : Int32) (a2 : Int32) (a3 : Int32) (a4 : Int32) : Option (Int32 × Sto) := (f_X12_rolls_151 c92) L σ a0 a1 a2 a3 a4 1
def A_X12_rolls_146 (c : Lay → Sto → Nat → Int32 → Int32 → Int32 → Int32 → Option (Int32 × Sto)) (lc : List (Option AV)) (st : List AV) (L : Lay) (σ : Sto) : Option (Int32 × Sto) := match lc, st with
  | [some (.inr (.inr (.inl (ta0, some a0)))), some (.inl a1), some (.inl a2), some (.inl a3), some (.inl a4), _], [] => bif Nat.beq ta0 12 && true then c L σ a0 a1 a2 a3 a4 else none
  | _, _ => none
def f_X12_rolls_150 (c92 : Lay → Sto → Nat → Int32 → Int32 → Int32 → Int32 → Option (Int32 × Sto)) (L : Lay) (σ : Sto) (a0 : Nat) (a1 : Int32) (a2 : Int32) (a3 : Int32) (a4 : Int32) : Option (Int32 × Sto) := (f_X12_rolls_151 c92) L σ a0 a1 a2 a3 a4 0
def A_X12_rolls_150 (c : Lay → Sto → Nat → Int32 → Int32 → Int32 → Int32 → Option (Int32 × Sto)) (lc : List (Option AV)) (st : List AV) (L : Lay) (σ : Sto) : Option (Int32 × Sto) := match lc, st with
  | [some (.inr (.inr (.inl (ta0, some a0)))), some (.inl a1), some (.inl a2), some (.inl a3), some (.inl a4), _], [] => bif Nat.beq ta0 12 && true then c L σ a0 a1 a2 a3 a4 else none
  | _, _ => none
def f_X12_rolls_143 (c92 : Lay → Sto → Nat → Int32 → Int32 → Int32 → Int32 → Option (Int32 × Sto)) (L : Lay) (σ : Sto) (a0 : Nat) (a1 : Int32) (a2 : Int32) (a3 : Int32) (a4 : Int32) (s0 : Int32) (s1 : Int32) : Option (Int32 × Sto) := (if s1 = s0 then (f_X12_rolls_146 c92) L σ a0 a1 a2 a3 a4 else (f_X12_rolls_150 c92) L σ a0 a1 a2 a3 a4)
def A_X12_rolls_143 (c : Lay → Sto → Nat → Int32 → Int32 → Int32 → Int32 → Int32 → Int32 → Option (Int32 × Sto)) (lc : List (Option AV)) (st : List AV) (L : Lay) (σ : Sto) : Option (Int32 × Sto) := match lc, st with
  | [some (.inr (.inr (.inl (ta0, some a0)))), some (.inl a1), some (.inl a2), some (.inl a3), some (.inl a4), _], [.inl s0, .inl s1] => bif Nat.beq ta0 12 && true then c L σ a0 a1 a2 a3 a4 s0 s1 else none
  | _, _ => none
def f_X12_rolls_92 : Nat → Lay → Sto → Nat → Int32 → Int32 → Int32 → Int32 → Option (Int32 × Sto)
  | 0 => fun _ _ _ _ _ _ _ => none
  | k + 1 => fun L σ a0 a1 a2 a3 a4 => (if (σ.1 a0 13) ≤ a4 then some (a3, σ) else (f_X12_in L σ a2 1 3).bind fun r6 => (if r6 = 0 then some (a3, σ) else (if a2 = 1 then (f_X12_rolls_146 (f_X12_rolls_92 k)) L σ a0 a1 a2 a3 a4 else (σ.2.1 a0 43).bind fun x7 => (rI L σ x7 a4).bind fun v8 => (if v8 = (-1) then (f_X12_rolls_150 (f_X12_rolls_92 k)) L σ a0 a1 a2 a3 a4 else (σ.2.1 a0 44).bind fun x9 => (rI L σ x9 a4).bind fun v10 => (if a2 = 2 then (f_X12_rolls_143 (f_X12_rolls_92 k)) L σ a0 a1 a2 a3 a4 1 v10 else (f_X12_rolls_143 (f_X12_rolls_92 k)) L σ a0 a1 a2 a3 a4 0 v10)))))
def A_X12_rolls_92 (c : Lay → Sto → Nat → Int32 → Int32 → Int32 → Int32 → Option (Int32 × Sto)) (lc : List (Option AV)) (st : List AV) (L : Lay) (σ : Sto) : Option (Int32 × Sto) := match lc, st with
  | [some (.inr (.inr (.inl (ta0, some a0)))), some (.inl a1), some (.inl a2), some (.inl a3), some (.inl a4), _], [] => bif Nat.beq ta0 12 && true then c L σ a0 a1 a2 a3 a4 else none
  | _, _ => none
def f_X12_rolls_89 (L : Lay) (σ : Sto) (a0 : Nat) (a1 : Int32) (a2 : Int32) (a3 : Int32) : Option (Int32 × Sto) := (f_X12_rolls_92 FU) L σ a0 a1 a2 a3 0
def A_X12_rolls_89 (c : Lay → Sto → Nat → Int32 → Int32 → Int32 → Option (Int32 × Sto)) (lc : List (Option AV)) (st : List AV) (L : Lay) (σ : Sto) : Option (Int32 × Sto) := match lc, st with
  | [some (.inr (.inr (.inl (ta0, some a0)))), some (.inl a1), some (.inl a2), some (.inl a3), _, _], [] => bif Nat.beq ta0 12 && true then c L σ a0 a1 a2 a3 else none
  | _, _ => none
def f_X12_rolls_29 : Nat → Lay → Sto → Nat → Int32 → Int32 → Int32 → Int32 → Option (Int32 × Sto)
  | 0 => fun _ _ _ _ _ _ _ => none
  | k + 1 => fun L σ a0 a1 a2 a3 a4 => (if (σ.1 a0 4) ≤ a4 then (f_X12_rolls_89) L σ a0 a1 a2 a3 else (if a2 = 0 then (f_X12_rolls_47 (f_X12_rolls_29 k)) L σ a0 a1 a2 a3 a4 else (if a2 = 4 then (f_X12_rolls_47 (f_X12_rolls_29 k)) L σ a0 a1 a2 a3 a4 else (f_X12_rolls_89) L σ a0 a1 a2 a3)))
def A_X12_rolls_29 (c : Lay → Sto → Nat → Int32 → Int32 → Int32 → Int32 → Option (Int32 × Sto)) (lc : List (Option AV)) (st : List AV) (L : Lay) (σ : Sto) : Option (Int32 × Sto) := match lc, st with
  | [some (.inr (.inr (.inl (ta0, some a0)))), some (.inl a1), some (.inl a2), some (.inl a3), some (.inl a4), _], [] => bif Nat.beq ta0 12 && true then c L σ a0 a1 a2 a3 a4 else none
  | _, _ => none
def f_X12_rolls (L : Lay) (σ : Sto) (a0 : Nat) (a1 : Int32) (a2 : Int32) : Option (Int32 × Sto) := (f_X12_isBranch L σ a0 a1).bind fun r11 => (if r11 = 0 then some ((-1000000001), σ) else (f_X12_in L σ a2 0 4).bind fun r12 => (if r12 = 0 then some ((-1000000001), σ) else (f_X12_joinsAll L σ a0).bind fun σ13 => (f_X12_rolls_29 FU) L σ13 a0 a1 a2 0 0))
def ad_X12_rolls : ADT := fun O L σ as k => match as with
  | [.inr (.inr (.inl (ta0, some a0))), .inl a1, .inl a2] => bif Nat.beq ta0 12 && true then (f_X12_rolls L σ a0 a1 a2).bind fun r => k (some (vI r.1)) L r.2 else none
  | _ => none
abbrev cl_X12_rolls {O : Type} : CLT O := (clc 187 ad_X12_ofOn (clc 147 ad_X12_in (clc 150 ad_X12_isBranch (clc 168 ad_X12_joinsAll cl0))))
theorem hc_X12_rolls (G : GT) (l : Launch) {d : Nat} (hd : 4 ≤ d) {O : Type} : HCL G l (true, false) d (cl_X12_rolls (O := O)) := (hclc (ca_X12_ofOn G l (d := 1) (Nat.le_refl _)) (fun _ => rfl) (fun e => by cases e) (by omega) (hclc (ca_X12_in G l (d := 1) (Nat.le_refl _)) (fun _ => rfl) (fun e => by cases e) (by omega) (hclc (ca_X12_isBranch G l (d := 2) (Nat.le_refl _)) (fun _ => rfl) (fun e => by cases e) (by omega) (hclc (ca_X12_joinsAll G l (d := 3) (Nat.le_refl _)) (fun _ => rfl) (fun e => by cases e) (by omega) hcl0))))
theorem rt_X12_rolls : retOK (0, 0) (some .int) := ⟨fun _ => rfl, fun h => absurd h (by decide), fun h => absurd h (by decide)⟩
set_option maxRecDepth 20000 in
theorem b_X12_rolls_81 {G : GT} {l : Launch} {d : Nat} {L0 : Lay} {σ0 : Sto} (hd : 4 ≤ d) {c29 : Lay → Sto → Nat → Int32 → Int32 → Int32 → Int32 → Option (Int32 × Sto)} (h29 : HF G l 12 "rolls" cX12_rolls 6 (some .int) d L0 σ0 (true, false) (dcI L0) 29 (A_X12_rolls_29 c29)) : HF G l 12 "rolls" cX12_rolls 6 (some .int) d L0 σ0 (true, false) (dcI L0) 81 (A_X12_rolls_81 (f_X12_rolls_81 c29)) := by
  intro lc st L σ o h hI
  unfold A_X12_rolls_81 at h
  split at h
  · obtain ⟨hq0, hA1⟩ := bif_s h
    obtain ⟨e0, hq1⟩ := beq_and hq0
    subst e0
    exact exs (sp := [29]) (K := (kc 29 (A_X12_rolls_29 c29) k0)) ok_X12_rolls rt_X12_rolls (by omega) (hc_X12_rolls G l hd) (hrI rfl) (hkc h29 hk0) 104 hA1 hI
  · cases h
set_option maxRecDepth 20000 in
theorem b_X12_rolls_76 {G : GT} {l : Launch} {d : Nat} {L0 : Lay} {σ0 : Sto} (hd : 4 ≤ d) {c29 : Lay → Sto → Nat → Int32 → Int32 → Int32 → Int32 → Option (Int32 × Sto)} (h29 : HF G l 12 "rolls" cX12_rolls 6 (some .int) d L0 σ0 (true, false) (dcI L0) 29 (A_X12_rolls_29 c29)) : HF G l 12 "rolls" cX12_rolls 6 (some .int) d L0 σ0 (true, false) (dcI L0) 76 (A_X12_rolls_76 (f_X12_rolls_76 c29)) := by
  intro lc st L σ o h hI
  unfold A_X12_rolls_76 at h
  split at h
  · obtain ⟨hq0, hA1⟩ := bif_s h
    obtain ⟨e0, hq1⟩ := beq_and hq0
    subst e0
    exact exs (sp := [81]) (K := (kc 81 (A_X12_rolls_81 (f_X12_rolls_81 c29)) k0)) ok_X12_rolls rt_X12_rolls (by omega) (hc_X12_rolls G l hd) (hrI rfl) (hkc (b_X12_rolls_81 hd h29) hk0) 104 hA1 hI
  · cases h
set_option maxRecDepth 20000 in
theorem b_X12_rolls_80 {G : GT} {l : Launch} {d : Nat} {L0 : Lay} {σ0 : Sto} (hd : 4 ≤ d) {c29 : Lay → Sto → Nat → Int32 → Int32 → Int32 → Int32 → Option (Int32 × Sto)} (h29 : HF G l 12 "rolls" cX12_rolls 6 (some .int) d L0 σ0 (true, false) (dcI L0) 29 (A_X12_rolls_29 c29)) : HF G l 12 "rolls" cX12_rolls 6 (some .int) d L0 σ0 (true, false) (dcI L0) 80 (A_X12_rolls_80 (f_X12_rolls_80 c29)) := by
  intro lc st L σ o h hI
  unfold A_X12_rolls_80 at h
  split at h
  · obtain ⟨hq0, hA1⟩ := bif_s h
    obtain ⟨e0, hq1⟩ := beq_and hq0
    subst e0
    exact exs (sp := [81]) (K := (kc 81 (A_X12_rolls_81 (f_X12_rolls_81 c29)) k0)) ok_X12_rolls rt_X12_rolls (by omega) (hc_X12_rolls G l hd) (hrI rfl) (hkc (b_X12_rolls_81 hd h29) hk0) 104 hA1 hI
  · cases h
set_option maxRecDepth 20000 in
theorem b_X12_rolls_47 {G : GT} {l : Launch} {d : Nat} {L0 : Lay} {σ0 : Sto} (hd : 4 ≤ d) {c29 : Lay → Sto → Nat → Int32 → Int32 → Int32 → Int32 → Option (Int32 × Sto)} (h29 : HF G l 12 "rolls" cX12_rolls 6 (some .int) d L0 σ0 (true, false) (dcI L0) 29 (A_X12_rolls_29 c29)) : HF G l 12 "rolls" cX12_rolls 6 (some .int) d L0 σ0 (true, false) (dcI L0) 47 (A_X12_rolls_47 (f_X12_rolls_47 c29)) := by
  intro lc st L σ o h hI
  unfold A_X12_rolls_47 at h
  split at h
  · obtain ⟨hq0, hA1⟩ := bif_s h
    obtain ⟨e0, hq1⟩ := beq_and hq0
    subst e0
    exact exs (sp := [76, 80]) (K := (kc 76 (A_X12_rolls_76 (f_X12_rolls_76 c29)) (kc 80 (A_X12_rolls_80 (f_X12_rolls_80 c29)) k0))) ok_X12_rolls rt_X12_rolls (by omega) (hc_X12_rolls G l hd) (hrI rfl) (hkc (b_X12_rolls_76 hd h29) (hkc (b_X12_rolls_80 hd h29) hk0)) 104 hA1 hI
  · cases h
set_option maxRecDepth 20000 in
theorem b_X12_rolls_175 {G : GT} {l : Launch} {d : Nat} {L0 : Lay} {σ0 : Sto} (hd : 4 ≤ d) {c92 : Lay → Sto → Nat → Int32 → Int32 → Int32 → Int32 → Option (Int32 × Sto)} (h92 : HF G l 12 "rolls" cX12_rolls 6 (some .int) d L0 σ0 (true, false) (dcI L0) 92 (A_X12_rolls_92 c92)) : HF G l 12 "rolls" cX12_rolls 6 (some .int) d L0 σ0 (true, false) (dcI L0) 175 (A_X12_rolls_175 (f_X12_rolls_175 c92)) := by
  intro lc st L σ o h hI
  unfold A_X12_rolls_175 at h
  split at h
  · obtain ⟨hq0, hA1⟩ := bif_s h
    obtain ⟨e0, hq1⟩ := beq_and hq0
    subst e0
    exact exs (sp := [92]) (K := (kc 92 (A_X12_rolls_92 c92) k0)) ok_X12_rolls rt_X12_rolls (by omega) (hc_X12_rolls G l hd) (hrI rfl) (hkc h92 hk0) 104 hA1 hI
  · cases h
set_option maxRecDepth 20000 in
theorem b_X12_rolls_174 {G : GT} {l : Launch} {d : Nat} {L0 : Lay} {σ0 : Sto} (hd : 4 ≤ d) {c92 : Lay → Sto → Nat → Int32 → Int32 → Int32 → Int32 → Option (Int32 × Sto)} (h92 : HF G l 12 "rolls" cX12_rolls 6 (some .int) d L0 σ0 (true, false) (dcI L0) 92 (A_X12_rolls_92 c92)) : HF G l 12 "rolls" cX12_rolls 6 (some .int) d L0 σ0 (true, false) (dcI L0) 174 (A_X12_rolls_174 (f_X12_rolls_174 c92)) := by
  intro lc st L σ o h hI
  unfold A_X12_rolls_174 at h
  split at h
  · obtain ⟨hq0, hA1⟩ := bif_s h
    obtain ⟨e0, hq1⟩ := beq_and hq0
    subst e0
    exact exs (sp := [175]) (K := (kc 175 (A_X12_rolls_175 (f_X12_rolls_175 c92)) k0)) ok_X12_rolls rt_X12_rolls (by omega) (hc_X12_rolls G l hd) (hrI rfl) (hkc (b_X12_rolls_175 hd h92) hk0) 104 hA1 hI
  · cases h
set_option maxRecDepth 20000 in
theorem b_X12_rolls_151 {G : GT} {l : Launch} {d : Nat} {L0 : Lay} {σ0 : Sto} (hd : 4 ≤ d) {c92 : Lay → Sto → Nat → Int32 → Int32 → Int32 → Int32 → Option (Int32 × Sto)} (h92 : HF G l 12 "rolls" cX12_rolls 6 (some .int) d L0 σ0 (true, false) (dcI L0) 92 (A_X12_rolls_92 c92)) : HF G l 12 "rolls" cX12_rolls 6 (some .int) d L0 σ0 (true, false) (dcI L0) 151 (A_X12_rolls_151 (f_X12_rolls_151 c92)) := by
  intro lc st L σ o h hI
  unfold A_X12_rolls_151 at h
  split at h
  · obtain ⟨hq0, hA1⟩ := bif_s h
    obtain ⟨e0, hq1⟩ := beq_and hq0
    subst e0
    exact exs (sp := [174, 175]) (K := (kc 174 (A_X12_rolls_174 (f_X12_rolls_174 c92)) (kc 175 (A_X12_rolls_175 (f_X12_rolls_175 c92)) k0))) ok_X12_rolls rt_X12_rolls (by omega) (hc_X12_rolls G l hd) (hrI rfl) (hkc (b_X12_rolls_174 hd h92) (hkc (b_X12_rolls_175 hd h92) hk0)) 104 hA1 hI
  · cases h
set_option maxRecDepth 20000 in
theorem b_X12_rolls_146 {G : GT} {l : Launch} {d : Nat} {L0 : Lay} {σ0 : Sto} (hd : 4 ≤ d) {c92 : Lay → Sto → Nat → Int32 → Int32 → Int32 → Int32 → Option (Int32 × Sto)} (h92 : HF G l 12 "rolls" cX12_rolls 6 (some .int) d L0 σ0 (true, false) (dcI L0) 92 (A_X12_rolls_92 c92)) : HF G l 12 "rolls" cX12_rolls 6 (some .int) d L0 σ0 (true, false) (dcI L0) 146 (A_X12_rolls_146 (f_X12_rolls_146 c92)) := by
  intro lc st L σ o h hI
  unfold A_X12_rolls_146 at h
  split at h
  · obtain ⟨hq0, hA1⟩ := bif_s h
    obtain ⟨e0, hq1⟩ := beq_and hq0
    subst e0
    exact exs (sp := [151]) (K := (kc 151 (A_X12_rolls_151 (f_X12_rolls_151 c92)) k0)) ok_X12_rolls rt_X12_rolls (by omega) (hc_X12_rolls G l hd) (hrI rfl) (hkc (b_X12_rolls_151 hd h92) hk0) 104 hA1 hI
  · cases h
set_option maxRecDepth 20000 in
theorem b_X12_rolls_150 {G : GT} {l : Launch} {d : Nat} {L0 : Lay} {σ0 : Sto} (hd : 4 ≤ d) {c92 : Lay → Sto → Nat → Int32 → Int32 → Int32 → Int32 → Option (Int32 × Sto)} (h92 : HF G l 12 "rolls" cX12_rolls 6 (some .int) d L0 σ0 (true, false) (dcI L0) 92 (A_X12_rolls_92 c92)) : HF G l 12 "rolls" cX12_rolls 6 (some .int) d L0 σ0 (true, false) (dcI L0) 150 (A_X12_rolls_150 (f_X12_rolls_150 c92)) := by
  intro lc st L σ o h hI
  unfold A_X12_rolls_150 at h
  split at h
  · obtain ⟨hq0, hA1⟩ := bif_s h
    obtain ⟨e0, hq1⟩ := beq_and hq0
    subst e0
    exact exs (sp := [151]) (K := (kc 151 (A_X12_rolls_151 (f_X12_rolls_151 c92)) k0)) ok_X12_rolls rt_X12_rolls (by omega) (hc_X12_rolls G l hd) (hrI rfl) (hkc (b_X12_rolls_151 hd h92) hk0) 104 hA1 hI
  · cases h
set_option maxRecDepth 20000 in
theorem b_X12_rolls_143 {G : GT} {l : Launch} {d : Nat} {L0 : Lay} {σ0 : Sto} (hd : 4 ≤ d) {c92 : Lay → Sto → Nat → Int32 → Int32 → Int32 → Int32 → Option (Int32 × Sto)} (h92 : HF G l 12 "rolls" cX12_rolls 6 (some .int) d L0 σ0 (true, false) (dcI L0) 92 (A_X12_rolls_92 c92)) : HF G l 12 "rolls" cX12_rolls 6 (some .int) d L0 σ0 (true, false) (dcI L0) 143 (A_X12_rolls_143 (f_X12_rolls_143 c92)) := by
  intro lc st L σ o h hI
  unfold A_X12_rolls_143 at h
  split at h
  · obtain ⟨hq0, hA1⟩ := bif_s h
    obtain ⟨e0, hq1⟩ := beq_and hq0
    subst e0
    exact exs (sp := [146, 150]) (K := (kc 146 (A_X12_rolls_146 (f_X12_rolls_146 c92)) (kc 150 (A_X12_rolls_150 (f_X12_rolls_150 c92)) k0))) ok_X12_rolls rt_X12_rolls (by omega) (hc_X12_rolls G l hd) (hrI rfl) (hkc (b_X12_rolls_146 hd h92) (hkc (b_X12_rolls_150 hd h92) hk0)) 104 hA1 hI
  · cases h
set_option maxRecDepth 20000 in
theorem b_X12_rolls_92 {G : GT} {l : Launch} {d : Nat} {L0 : Lay} {σ0 : Sto} (hd : 4 ≤ d) : ∀ k : Nat, HF G l 12 "rolls" cX12_rolls 6 (some .int) d L0 σ0 (true, false) (dcI L0) 92 (A_X12_rolls_92 (f_X12_rolls_92 k))
  | 0 => by
    intro lc st L σ o h hI
    unfold A_X12_rolls_92 at h
    split at h
    · obtain ⟨_, hA1⟩ := bif_s h
      cases hA1
    · cases h
  | k + 1 => by
    have ih := b_X12_rolls_92 (G := G) (l := l) (d := d) (L0 := L0) (σ0 := σ0) hd k
    intro lc st L σ o h hI
    unfold A_X12_rolls_92 at h
    split at h
    · obtain ⟨hq0, hA1⟩ := bif_s h
      obtain ⟨e0, hq1⟩ := beq_and hq0
      subst e0
      exact exs (sp := [143, 146, 150]) (K := (kc 143 (A_X12_rolls_143 (f_X12_rolls_143 (f_X12_rolls_92 k))) (kc 146 (A_X12_rolls_146 (f_X12_rolls_146 (f_X12_rolls_92 k))) (kc 150 (A_X12_rolls_150 (f_X12_rolls_150 (f_X12_rolls_92 k))) k0)))) ok_X12_rolls rt_X12_rolls (by omega) (hc_X12_rolls G l hd) (hrI rfl) (hkc (b_X12_rolls_143 hd ih) (hkc (b_X12_rolls_146 hd ih) (hkc (b_X12_rolls_150 hd ih) hk0))) 104 hA1 hI
    · cases h
set_option maxRecDepth 20000 in
theorem b_X12_rolls_89 {G : GT} {l : Launch} {d : Nat} {L0 : Lay} {σ0 : Sto} (hd : 4 ≤ d) : HF G l 12 "rolls" cX12_rolls 6 (some .int) d L0 σ0 (true, false) (dcI L0) 89 (A_X12_rolls_89 f_X12_rolls_89) := by
  intro lc st L σ o h hI
  unfold A_X12_rolls_89 at h
  split at h
  · obtain ⟨hq0, hA1⟩ := bif_s h
    obtain ⟨e0, hq1⟩ := beq_and hq0
    subst e0
    exact exs (sp := [92]) (K := (kc 92 (A_X12_rolls_92 (f_X12_rolls_92 FU)) k0)) ok_X12_rolls rt_X12_rolls (by omega) (hc_X12_rolls G l hd) (hrI rfl) (hkc (b_X12_rolls_92 hd FU) hk0) 104 hA1 hI
  · cases h
set_option maxRecDepth 20000 in
theorem b_X12_rolls_29 {G : GT} {l : Launch} {d : Nat} {L0 : Lay} {σ0 : Sto} (hd : 4 ≤ d) : ∀ k : Nat, HF G l 12 "rolls" cX12_rolls 6 (some .int) d L0 σ0 (true, false) (dcI L0) 29 (A_X12_rolls_29 (f_X12_rolls_29 k))
  | 0 => by
    intro lc st L σ o h hI
    unfold A_X12_rolls_29 at h
    split at h
    · obtain ⟨_, hA1⟩ := bif_s h
      cases hA1
    · cases h
  | k + 1 => by
    have ih := b_X12_rolls_29 (G := G) (l := l) (d := d) (L0 := L0) (σ0 := σ0) hd k
    intro lc st L σ o h hI
    unfold A_X12_rolls_29 at h
    split at h
    · obtain ⟨hq0, hA1⟩ := bif_s h
      obtain ⟨e0, hq1⟩ := beq_and hq0
      subst e0
      exact exs (sp := [47, 89]) (K := (kc 47 (A_X12_rolls_47 (f_X12_rolls_47 (f_X12_rolls_29 k))) (kc 89 (A_X12_rolls_89 (f_X12_rolls_89)) k0))) ok_X12_rolls rt_X12_rolls (by omega) (hc_X12_rolls G l hd) (hrI rfl) (hkc (b_X12_rolls_47 hd ih) (hkc (b_X12_rolls_89 hd) hk0)) 104 hA1 hI
    · cases h
set_option maxRecDepth 20000 in
theorem ca_X12_rolls (G : GT) (l : Launch) {d : Nat} (hd : 4 ≤ d) : CA G l 199 (true, false) d ad_X12_rolls := by
  intro O L σ as k o h hW hok
  unfold ad_X12_rolls at h
  split at h
  · obtain ⟨hq0, hA0⟩ := bif_s h
    obtain ⟨e0, hq1⟩ := beq_and hq0
    subst e0
    obtain ⟨r, hr, hk⟩ := Option.bind_eq_some_iff.mp hA0
    exact ca_of (q := (dcI L) r) (by decide) rfl (Nat.le_of_ble_eq_true rfl) hk (fun _ => rfl) (fun e => by cases e) (exs (sp := [29]) (K := (kc 29 (A_X12_rolls_29 (f_X12_rolls_29 FU)) k0)) (L0 := L) (σ0 := σ) ok_X12_rolls rt_X12_rolls (by omega) (hc_X12_rolls G l hd) (hrI rfl) (hkc (b_X12_rolls_29 hd FU) hk0) 104 hr (inv0 hW hok))
  · cases h
