def tt_X12_init (pc : Nat) : TI := bif Nat.blt pc 231 then (bif Nat.blt pc 119 then (bif Nat.blt pc 57 then (bif Nat.blt pc 28 then (bif Nat.blt pc 13 then (bif Nat.blt pc 5 then (bif Nat.blt pc 1 then (bif Nat.beq pc 0 then (.aload_n 0, 1, (0, 0, 0), 0, 0, []) else TN) else (bif Nat.blt pc 4 then (bif Nat.beq pc 1 then (.invokespecial 1, 4, (0, 0, 0), 0, 0, []) else TN) else (bif Nat.beq pc 4 then (.aload_n 0, 5, (0, 0, 0), 0, 0, []) else TN))) else (bif Nat.blt pc 9 then (bif Nat.blt pc 7 then (bif Nat.beq pc 5 then (.bipush 6, 7, (0, 0, 0), 6, 0, []) else TN) else (bif Nat.beq pc 7 then (.newarray .int, 9, (20, 6, 0), 0, 0, []) else TN)) else (bif Nat.blt pc 12 then (bif Nat.beq pc 9 then (.putfield 7, 12, (12, 3, 0), 0, 0, []) else TN) else (bif Nat.beq pc 12 then (.aload_n 0, 13, (0, 0, 0), 0, 0, []) else TN)))) else (bif Nat.blt pc 20 then (bif Nat.blt pc 15 then (bif Nat.beq pc 13 then (.bipush 40, 15, (0, 0, 0), 40, 0, []) else TN) else (bif Nat.blt pc 17 then (bif Nat.beq pc 15 then (.newarray .int, 17, (20, 40, 0), 0, 0, []) else TN) else (bif Nat.beq pc 17 then (.putfield 13, 20, (12, 5, 0), 0, 0, []) else TN))) else (bif Nat.blt pc 23 then (bif Nat.blt pc 21 then (bif Nat.beq pc 20 then (.aload_n 0, 21, (0, 0, 0), 0, 0, []) else TN) else (bif Nat.beq pc 21 then (.bipush 40, 23, (0, 0, 0), 40, 0, []) else TN)) else (bif Nat.blt pc 25 then (bif Nat.beq pc 23 then (.newarray .int, 25, (20, 40, 0), 0, 0, []) else TN) else (bif Nat.beq pc 25 then (.putfield 16, 28, (12, 6, 0), 0, 0, []) else TN))))) else (bif Nat.blt pc 41 then (bif Nat.blt pc 33 then (bif Nat.blt pc 29 then (bif Nat.beq pc 28 then (.aload_n 0, 29, (0, 0, 0), 0, 0, []) else TN) else (bif Nat.blt pc 31 then (bif Nat.beq pc 29 then (.bipush 40, 31, (0, 0, 0), 40, 0, []) else TN) else (bif Nat.beq pc 31 then (.newarray .int, 33, (20, 40, 0), 0, 0, []) else TN))) else (bif Nat.blt pc 37 then (bif Nat.blt pc 36 then (bif Nat.beq pc 33 then (.putfield 19, 36, (12, 7, 0), 0, 0, []) else TN) else (bif Nat.beq pc 36 then (.aload_n 0, 37, (0, 0, 0), 0, 0, []) else TN)) else (bif Nat.blt pc 39 then (bif Nat.beq pc 37 then (.bipush 40, 39, (0, 0, 0), 40, 0, []) else TN) else (bif Nat.beq pc 39 then (.newarray .int, 41, (20, 40, 0), 0, 0, []) else TN)))) else (bif Nat.blt pc 49 then (bif Nat.blt pc 45 then (bif Nat.blt pc 44 then (bif Nat.beq pc 41 then (.putfield 22, 44, (12, 8, 0), 0, 0, []) else TN) else (bif Nat.beq pc 44 then (.aload_n 0, 45, (0, 0, 0), 0, 0, []) else TN)) else (bif Nat.blt pc 47 then (bif Nat.beq pc 45 then (.bipush 40, 47, (0, 0, 0), 40, 0, []) else TN) else (bif Nat.beq pc 47 then (.newarray .int, 49, (20, 40, 0), 0, 0, []) else TN))) else (bif Nat.blt pc 53 then (bif Nat.blt pc 52 then (bif Nat.beq pc 49 then (.putfield 25, 52, (12, 9, 0), 0, 0, []) else TN) else (bif Nat.beq pc 52 then (.aload_n 0, 53, (0, 0, 0), 0, 0, []) else TN)) else (bif Nat.blt pc 55 then (bif Nat.beq pc 53 then (.bipush 40, 55, (0, 0, 0), 40, 0, []) else TN) else (bif Nat.beq pc 55 then (.newarray .int, 57, (20, 40, 0), 0, 0, []) else TN)))))) else (bif Nat.blt pc 89 then (bif Nat.blt pc 73 then (bif Nat.blt pc 64 then (bif Nat.blt pc 60 then (bif Nat.beq pc 57 then (.putfield 28, 60, (12, 10, 0), 0, 0, []) else TN) else (bif Nat.blt pc 61 then (bif Nat.beq pc 60 then (.aload_n 0, 61, (0, 0, 0), 0, 0, []) else TN) else (bif Nat.beq pc 61 then (.sipush 280, 64, (0, 0, 0), 280, 0, []) else TN))) else (bif Nat.blt pc 69 then (bif Nat.blt pc 66 then (bif Nat.beq pc 64 then (.newarray .int, 66, (20, 280, 0), 0, 0, []) else TN) else (bif Nat.beq pc 66 then (.putfield 31, 69, (12, 11, 0), 0, 0, []) else TN)) else (bif Nat.blt pc 70 then (bif Nat.beq pc 69 then (.aload_n 0, 70, (0, 0, 0), 0, 0, []) else TN) else (bif Nat.beq pc 70 then (.sipush 280, 73, (0, 0, 0), 280, 0, []) else TN)))) else (bif Nat.blt pc 81 then (bif Nat.blt pc 78 then (bif Nat.blt pc 75 then (bif Nat.beq pc 73 then (.newarray .int, 75, (20, 280, 0), 0, 0, []) else TN) else (bif Nat.beq pc 75 then (.putfield 34, 78, (12, 12, 0), 0, 0, []) else TN)) else (bif Nat.blt pc 79 then (bif Nat.beq pc 78 then (.aload_n 0, 79, (0, 0, 0), 0, 0, []) else TN) else (bif Nat.beq pc 79 then (.bipush 40, 81, (0, 0, 0), 40, 0, []) else TN))) else (bif Nat.blt pc 86 then (bif Nat.blt pc 83 then (bif Nat.beq pc 81 then (.newarray .int, 83, (20, 40, 0), 0, 0, []) else TN) else (bif Nat.beq pc 83 then (.putfield 37, 86, (12, 14, 0), 0, 0, []) else TN)) else (bif Nat.blt pc 87 then (bif Nat.beq pc 86 then (.aload_n 0, 87, (0, 0, 0), 0, 0, []) else TN) else (bif Nat.beq pc 87 then (.bipush 40, 89, (0, 0, 0), 40, 0, []) else TN))))) else (bif Nat.blt pc 103 then (bif Nat.blt pc 95 then (bif Nat.blt pc 91 then (bif Nat.beq pc 89 then (.newarray .int, 91, (20, 40, 0), 0, 0, []) else TN) else (bif Nat.blt pc 94 then (bif Nat.beq pc 91 then (.putfield 40, 94, (12, 15, 0), 0, 0, []) else TN) else (bif Nat.beq pc 94 then (.aload_n 0, 95, (0, 0, 0), 0, 0, []) else TN))) else (bif Nat.blt pc 99 then (bif Nat.blt pc 97 then (bif Nat.beq pc 95 then (.bipush 12, 97, (0, 0, 0), 12, 0, []) else TN) else (bif Nat.beq pc 97 then (.newarray .int, 99, (20, 12, 0), 0, 0, []) else TN)) else (bif Nat.blt pc 102 then (bif Nat.beq pc 99 then (.putfield 43, 102, (12, 17, 0), 0, 0, []) else TN) else (bif Nat.beq pc 102 then (.aload_n 0, 103, (0, 0, 0), 0, 0, []) else TN)))) else (bif Nat.blt pc 111 then (bif Nat.blt pc 107 then (bif Nat.blt pc 105 then (bif Nat.beq pc 103 then (.bipush 12, 105, (0, 0, 0), 12, 0, []) else TN) else (bif Nat.beq pc 105 then (.newarray .int, 107, (20, 12, 0), 0, 0, []) else TN)) else (bif Nat.blt pc 110 then (bif Nat.beq pc 107 then (.putfield 46, 110, (12, 18, 0), 0, 0, []) else TN) else (bif Nat.beq pc 110 then (.aload_n 0, 111, (0, 0, 0), 0, 0, []) else TN))) else (bif Nat.blt pc 115 then (bif Nat.blt pc 113 then (bif Nat.beq pc 111 then (.bipush 12, 113, (0, 0, 0), 12, 0, []) else TN) else (bif Nat.beq pc 113 then (.newarray .int, 115, (20, 12, 0), 0, 0, []) else TN)) else (bif Nat.blt pc 118 then (bif Nat.beq pc 115 then (.putfield 49, 118, (12, 19, 0), 0, 0, []) else TN) else (bif Nat.beq pc 118 then (.aload_n 0, 119, (0, 0, 0), 0, 0, []) else TN))))))) else (bif Nat.blt pc 181 then (bif Nat.blt pc 153 then (bif Nat.blt pc 136 then (bif Nat.blt pc 127 then (bif Nat.blt pc 122 then (bif Nat.beq pc 119 then (.sipush 480, 122, (0, 0, 0), 480, 0, []) else TN) else (bif Nat.blt pc 124 then (bif Nat.beq pc 122 then (.newarray .int, 124, (20, 480, 0), 0, 0, []) else TN) else (bif Nat.beq pc 124 then (.putfield 52, 127, (12, 20, 0), 0, 0, []) else TN))) else (bif Nat.blt pc 131 then (bif Nat.blt pc 128 then (bif Nat.beq pc 127 then (.aload_n 0, 128, (0, 0, 0), 0, 0, []) else TN) else (bif Nat.beq pc 128 then (.sipush 480, 131, (0, 0, 0), 480, 0, []) else TN)) else (bif Nat.blt pc 133 then (bif Nat.beq pc 131 then (.newarray .int, 133, (20, 480, 0), 0, 0, []) else TN) else (bif Nat.beq pc 133 then (.putfield 55, 136, (12, 21, 0), 0, 0, []) else TN)))) else (bif Nat.blt pc 145 then (bif Nat.blt pc 140 then (bif Nat.blt pc 137 then (bif Nat.beq pc 136 then (.aload_n 0, 137, (0, 0, 0), 0, 0, []) else TN) else (bif Nat.beq pc 137 then (.sipush 480, 140, (0, 0, 0), 480, 0, []) else TN)) else (bif Nat.blt pc 142 then (bif Nat.beq pc 140 then (.newarray .int, 142, (20, 480, 0), 0, 0, []) else TN) else (bif Nat.beq pc 142 then (.putfield 58, 145, (12, 22, 0), 0, 0, []) else TN))) else (bif Nat.blt pc 148 then (bif Nat.blt pc 146 then (bif Nat.beq pc 145 then (.aload_n 0, 146, (0, 0, 0), 0, 0, []) else TN) else (bif Nat.beq pc 146 then (.bipush 108, 148, (0, 0, 0), 108, 0, []) else TN)) else (bif Nat.blt pc 150 then (bif Nat.beq pc 148 then (.newarray .int, 150, (20, 108, 0), 0, 0, []) else TN) else (bif Nat.beq pc 150 then (.putfield 61, 153, (12, 23, 0), 0, 0, []) else TN))))) else (bif Nat.blt pc 165 then (bif Nat.blt pc 158 then (bif Nat.blt pc 154 then (bif Nat.beq pc 153 then (.aload_n 0, 154, (0, 0, 0), 0, 0, []) else TN) else (bif Nat.blt pc 156 then (bif Nat.beq pc 154 then (.bipush 108, 156, (0, 0, 0), 108, 0, []) else TN) else (bif Nat.beq pc 156 then (.newarray .int, 158, (20, 108, 0), 0, 0, []) else TN))) else (bif Nat.blt pc 162 then (bif Nat.blt pc 161 then (bif Nat.beq pc 158 then (.putfield 64, 161, (12, 24, 0), 0, 0, []) else TN) else (bif Nat.beq pc 161 then (.aload_n 0, 162, (0, 0, 0), 0, 0, []) else TN)) else (bif Nat.blt pc 163 then (bif Nat.beq pc 162 then (.iconst 3, 163, (0, 0, 0), 3, 0, []) else TN) else (bif Nat.beq pc 163 then (.newarray .int, 165, (20, 3, 0), 0, 0, []) else TN)))) else (bif Nat.blt pc 173 then (bif Nat.blt pc 169 then (bif Nat.blt pc 168 then (bif Nat.beq pc 165 then (.putfield 67, 168, (12, 28, 0), 0, 0, []) else TN) else (bif Nat.beq pc 168 then (.aload_n 0, 169, (0, 0, 0), 0, 0, []) else TN)) else (bif Nat.blt pc 171 then (bif Nat.beq pc 169 then (.bipush 12, 171, (0, 0, 0), 12, 0, []) else TN) else (bif Nat.beq pc 171 then (.newarray .int, 173, (20, 12, 0), 0, 0, []) else TN))) else (bif Nat.blt pc 177 then (bif Nat.blt pc 176 then (bif Nat.beq pc 173 then (.putfield 70, 176, (12, 30, 0), 0, 0, []) else TN) else (bif Nat.beq pc 176 then (.aload_n 0, 177, (0, 0, 0), 0, 0, []) else TN)) else (bif Nat.blt pc 179 then (bif Nat.beq pc 177 then (.bipush 12, 179, (0, 0, 0), 12, 0, []) else TN) else (bif Nat.beq pc 179 then (.newarray .int, 181, (20, 12, 0), 0, 0, []) else TN)))))) else (bif Nat.blt pc 211 then (bif Nat.blt pc 195 then (bif Nat.blt pc 187 then (bif Nat.blt pc 184 then (bif Nat.beq pc 181 then (.putfield 73, 184, (12, 31, 0), 0, 0, []) else TN) else (bif Nat.blt pc 185 then (bif Nat.beq pc 184 then (.aload_n 0, 185, (0, 0, 0), 0, 0, []) else TN) else (bif Nat.beq pc 185 then (.bipush 12, 187, (0, 0, 0), 12, 0, []) else TN))) else (bif Nat.blt pc 192 then (bif Nat.blt pc 189 then (bif Nat.beq pc 187 then (.newarray .int, 189, (20, 12, 0), 0, 0, []) else TN) else (bif Nat.beq pc 189 then (.putfield 76, 192, (12, 32, 0), 0, 0, []) else TN)) else (bif Nat.blt pc 193 then (bif Nat.beq pc 192 then (.aload_n 0, 193, (0, 0, 0), 0, 0, []) else TN) else (bif Nat.beq pc 193 then (.bipush 12, 195, (0, 0, 0), 12, 0, []) else TN)))) else (bif Nat.blt pc 203 then (bif Nat.blt pc 200 then (bif Nat.blt pc 197 then (bif Nat.beq pc 195 then (.newarray .int, 197, (20, 12, 0), 0, 0, []) else TN) else (bif Nat.beq pc 197 then (.putfield 79, 200, (12, 33, 0), 0, 0, []) else TN)) else (bif Nat.blt pc 201 then (bif Nat.beq pc 200 then (.aload_n 0, 201, (0, 0, 0), 0, 0, []) else TN) else (bif Nat.beq pc 201 then (.bipush 12, 203, (0, 0, 0), 12, 0, []) else TN))) else (bif Nat.blt pc 208 then (bif Nat.blt pc 205 then (bif Nat.beq pc 203 then (.newarray .int, 205, (20, 12, 0), 0, 0, []) else TN) else (bif Nat.beq pc 205 then (.putfield 82, 208, (12, 34, 0), 0, 0, []) else TN)) else (bif Nat.blt pc 209 then (bif Nat.beq pc 208 then (.aload_n 0, 209, (0, 0, 0), 0, 0, []) else TN) else (bif Nat.beq pc 209 then (.bipush 12, 211, (0, 0, 0), 12, 0, []) else TN))))) else (bif Nat.blt pc 222 then (bif Nat.blt pc 217 then (bif Nat.blt pc 213 then (bif Nat.beq pc 211 then (.newarray .int, 213, (20, 12, 0), 0, 0, []) else TN) else (bif Nat.blt pc 216 then (bif Nat.beq pc 213 then (.putfield 85, 216, (12, 35, 0), 0, 0, []) else TN) else (bif Nat.beq pc 216 then (.aload_n 0, 217, (0, 0, 0), 0, 0, []) else TN))) else (bif Nat.blt pc 220 then (bif Nat.blt pc 218 then (bif Nat.beq pc 217 then (.iconst 5, 218, (0, 0, 0), 5, 0, []) else TN) else (bif Nat.beq pc 218 then (.newarray .int, 220, (20, 5, 0), 0, 0, []) else TN)) else (bif Nat.blt pc 221 then (bif Nat.beq pc 220 then (.dup, 221, (0, 0, 0), 0, 0, []) else TN) else (bif Nat.beq pc 221 then (.iconst 0, 222, (0, 0, 0), 0, 0, []) else TN)))) else (bif Nat.blt pc 226 then (bif Nat.blt pc 224 then (bif Nat.blt pc 223 then (bif Nat.beq pc 222 then (.iconst 0, 223, (0, 0, 0), 0, 0, []) else TN) else (bif Nat.beq pc 223 then (.iastore, 224, (0, 0, 0), 0, 0, []) else TN)) else (bif Nat.blt pc 225 then (bif Nat.beq pc 224 then (.dup, 225, (0, 0, 0), 0, 0, []) else TN) else (bif Nat.beq pc 225 then (.iconst 1, 226, (0, 0, 0), 1, 0, []) else TN))) else (bif Nat.blt pc 229 then (bif Nat.blt pc 228 then (bif Nat.beq pc 226 then (.bipush 50, 228, (0, 0, 0), 50, 0, []) else TN) else (bif Nat.beq pc 228 then (.iastore, 229, (0, 0, 0), 0, 0, []) else TN)) else (bif Nat.blt pc 230 then (bif Nat.beq pc 229 then (.dup, 230, (0, 0, 0), 0, 0, []) else TN) else (bif Nat.beq pc 230 then (.iconst 2, 231, (0, 0, 0), 2, 0, []) else TN)))))))) else (bif Nat.blt pc 305 then (bif Nat.blt pc 264 then (bif Nat.blt pc 249 then (bif Nat.blt pc 238 then (bif Nat.blt pc 234 then (bif Nat.blt pc 232 then (bif Nat.beq pc 231 then (.iconst 0, 232, (0, 0, 0), 0, 0, []) else TN) else (bif Nat.blt pc 233 then (bif Nat.beq pc 232 then (.iastore, 233, (0, 0, 0), 0, 0, []) else TN) else (bif Nat.beq pc 233 then (.dup, 234, (0, 0, 0), 0, 0, []) else TN))) else (bif Nat.blt pc 236 then (bif Nat.blt pc 235 then (bif Nat.beq pc 234 then (.iconst 3, 235, (0, 0, 0), 3, 0, []) else TN) else (bif Nat.beq pc 235 then (.iconst 3, 236, (0, 0, 0), 3, 0, []) else TN)) else (bif Nat.blt pc 237 then (bif Nat.beq pc 236 then (.iastore, 237, (0, 0, 0), 0, 0, []) else TN) else (bif Nat.beq pc 237 then (.dup, 238, (0, 0, 0), 0, 0, []) else TN)))) else (bif Nat.blt pc 244 then (bif Nat.blt pc 240 then (bif Nat.blt pc 239 then (bif Nat.beq pc 238 then (.iconst 4, 239, (0, 0, 0), 4, 0, []) else TN) else (bif Nat.beq pc 239 then (.iconst 3, 240, (0, 0, 0), 3, 0, []) else TN)) else (bif Nat.blt pc 241 then (bif Nat.beq pc 240 then (.iastore, 241, (0, 0, 0), 0, 0, []) else TN) else (bif Nat.beq pc 241 then (.putfield 88, 244, (12, 36, 0), 0, 0, []) else TN))) else (bif Nat.blt pc 246 then (bif Nat.blt pc 245 then (bif Nat.beq pc 244 then (.aload_n 0, 245, (0, 0, 0), 0, 0, []) else TN) else (bif Nat.beq pc 245 then (.iconst 5, 246, (0, 0, 0), 5, 0, []) else TN)) else (bif Nat.blt pc 248 then (bif Nat.beq pc 246 then (.newarray .int, 248, (20, 5, 0), 0, 0, []) else TN) else (bif Nat.beq pc 248 then (.dup, 249, (0, 0, 0), 0, 0, []) else TN))))) else (bif Nat.blt pc 256 then (bif Nat.blt pc 252 then (bif Nat.blt pc 250 then (bif Nat.beq pc 249 then (.iconst 0, 250, (0, 0, 0), 0, 0, []) else TN) else (bif Nat.blt pc 251 then (bif Nat.beq pc 250 then (.iconst 0, 251, (0, 0, 0), 0, 0, []) else TN) else (bif Nat.beq pc 251 then (.iastore, 252, (0, 0, 0), 0, 0, []) else TN))) else (bif Nat.blt pc 254 then (bif Nat.blt pc 253 then (bif Nat.beq pc 252 then (.dup, 253, (0, 0, 0), 0, 0, []) else TN) else (bif Nat.beq pc 253 then (.iconst 1, 254, (0, 0, 0), 1, 0, []) else TN)) else (bif Nat.blt pc 255 then (bif Nat.beq pc 254 then (.iconst 0, 255, (0, 0, 0), 0, 0, []) else TN) else (bif Nat.beq pc 255 then (.iastore, 256, (0, 0, 0), 0, 0, []) else TN)))) else (bif Nat.blt pc 260 then (bif Nat.blt pc 258 then (bif Nat.blt pc 257 then (bif Nat.beq pc 256 then (.dup, 257, (0, 0, 0), 0, 0, []) else TN) else (bif Nat.beq pc 257 then (.iconst 2, 258, (0, 0, 0), 2, 0, []) else TN)) else (bif Nat.blt pc 259 then (bif Nat.beq pc 258 then (.iconst 0, 259, (0, 0, 0), 0, 0, []) else TN) else (bif Nat.beq pc 259 then (.iastore, 260, (0, 0, 0), 0, 0, []) else TN))) else (bif Nat.blt pc 262 then (bif Nat.blt pc 261 then (bif Nat.beq pc 260 then (.dup, 261, (0, 0, 0), 0, 0, []) else TN) else (bif Nat.beq pc 261 then (.iconst 3, 262, (0, 0, 0), 3, 0, []) else TN)) else (bif Nat.blt pc 263 then (bif Nat.beq pc 262 then (.iconst 1, 263, (0, 0, 0), 1, 0, []) else TN) else (bif Nat.beq pc 263 then (.iastore, 264, (0, 0, 0), 0, 0, []) else TN)))))) else (bif Nat.blt pc 284 then (bif Nat.blt pc 273 then (bif Nat.blt pc 267 then (bif Nat.blt pc 265 then (bif Nat.beq pc 264 then (.dup, 265, (0, 0, 0), 0, 0, []) else TN) else (bif Nat.blt pc 266 then (bif Nat.beq pc 265 then (.iconst 4, 266, (0, 0, 0), 4, 0, []) else TN) else (bif Nat.beq pc 266 then (.iconst 1, 267, (0, 0, 0), 1, 0, []) else TN))) else (bif Nat.blt pc 271 then (bif Nat.blt pc 268 then (bif Nat.beq pc 267 then (.iastore, 268, (0, 0, 0), 0, 0, []) else TN) else (bif Nat.beq pc 268 then (.putfield 91, 271, (12, 37, 0), 0, 0, []) else TN)) else (bif Nat.blt pc 272 then (bif Nat.beq pc 271 then (.aload_n 0, 272, (0, 0, 0), 0, 0, []) else TN) else (bif Nat.beq pc 272 then (.iconst 5, 273, (0, 0, 0), 5, 0, []) else TN)))) else (bif Nat.blt pc 279 then (bif Nat.blt pc 276 then (bif Nat.blt pc 275 then (bif Nat.beq pc 273 then (.newarray .int, 275, (20, 5, 0), 0, 0, []) else TN) else (bif Nat.beq pc 275 then (.dup, 276, (0, 0, 0), 0, 0, []) else TN)) else (bif Nat.blt pc 277 then (bif Nat.beq pc 276 then (.iconst 0, 277, (0, 0, 0), 0, 0, []) else TN) else (bif Nat.beq pc 277 then (.ldc 94, 279, (0, 0, 0), 1000000, 0, []) else TN))) else (bif Nat.blt pc 281 then (bif Nat.blt pc 280 then (bif Nat.beq pc 279 then (.iastore, 280, (0, 0, 0), 0, 0, []) else TN) else (bif Nat.beq pc 280 then (.dup, 281, (0, 0, 0), 0, 0, []) else TN)) else (bif Nat.blt pc 282 then (bif Nat.beq pc 281 then (.iconst 1, 282, (0, 0, 0), 1, 0, []) else TN) else (bif Nat.beq pc 282 then (.bipush 100, 284, (0, 0, 0), 100, 0, []) else TN))))) else (bif Nat.blt pc 293 then (bif Nat.blt pc 287 then (bif Nat.blt pc 285 then (bif Nat.beq pc 284 then (.iastore, 285, (0, 0, 0), 0, 0, []) else TN) else (bif Nat.blt pc 286 then (bif Nat.beq pc 285 then (.dup, 286, (0, 0, 0), 0, 0, []) else TN) else (bif Nat.beq pc 286 then (.iconst 2, 287, (0, 0, 0), 2, 0, []) else TN))) else (bif Nat.blt pc 291 then (bif Nat.blt pc 290 then (bif Nat.beq pc 287 then (.sipush 9999, 290, (0, 0, 0), 9999, 0, []) else TN) else (bif Nat.beq pc 290 then (.iastore, 291, (0, 0, 0), 0, 0, []) else TN)) else (bif Nat.blt pc 292 then (bif Nat.beq pc 291 then (.dup, 292, (0, 0, 0), 0, 0, []) else TN) else (bif Nat.beq pc 292 then (.iconst 3, 293, (0, 0, 0), 3, 0, []) else TN)))) else (bif Nat.blt pc 298 then (bif Nat.blt pc 296 then (bif Nat.blt pc 295 then (bif Nat.beq pc 293 then (.bipush 12, 295, (0, 0, 0), 12, 0, []) else TN) else (bif Nat.beq pc 295 then (.iastore, 296, (0, 0, 0), 0, 0, []) else TN)) else (bif Nat.blt pc 297 then (bif Nat.beq pc 296 then (.dup, 297, (0, 0, 0), 0, 0, []) else TN) else (bif Nat.beq pc 297 then (.iconst 4, 298, (0, 0, 0), 4, 0, []) else TN))) else (bif Nat.blt pc 301 then (bif Nat.blt pc 300 then (bif Nat.beq pc 298 then (.bipush 20, 300, (0, 0, 0), 20, 0, []) else TN) else (bif Nat.beq pc 300 then (.iastore, 301, (0, 0, 0), 0, 0, []) else TN)) else (bif Nat.blt pc 304 then (bif Nat.beq pc 301 then (.putfield 95, 304, (12, 38, 0), 0, 0, []) else TN) else (bif Nat.beq pc 304 then (.aload_n 0, 305, (0, 0, 0), 0, 0, []) else TN))))))) else (bif Nat.blt pc 356 then (bif Nat.blt pc 327 then (bif Nat.blt pc 317 then (bif Nat.blt pc 312 then (bif Nat.blt pc 307 then (bif Nat.beq pc 305 then (.bipush 30, 307, (0, 0, 0), 30, 0, []) else TN) else (bif Nat.blt pc 309 then (bif Nat.beq pc 307 then (.newarray .int, 309, (20, 30, 0), 0, 0, []) else TN) else (bif Nat.beq pc 309 then (.putfield 98, 312, (12, 40, 0), 0, 0, []) else TN))) else (bif Nat.blt pc 314 then (bif Nat.blt pc 313 then (bif Nat.beq pc 312 then (.aload_n 0, 313, (0, 0, 0), 0, 0, []) else TN) else (bif Nat.beq pc 313 then (.iconst 2, 314, (0, 0, 0), 2, 0, []) else TN)) else (bif Nat.blt pc 316 then (bif Nat.beq pc 314 then (.newarray .int, 316, (20, 2, 0), 0, 0, []) else TN) else (bif Nat.beq pc 316 then (.dup, 317, (0, 0, 0), 0, 0, []) else TN)))) else (bif Nat.blt pc 321 then (bif Nat.blt pc 319 then (bif Nat.blt pc 318 then (bif Nat.beq pc 317 then (.iconst 0, 318, (0, 0, 0), 0, 0, []) else TN) else (bif Nat.beq pc 318 then (.iconst (-1), 319, (0, 0, 0), -1, 0, []) else TN)) else (bif Nat.blt pc 320 then (bif Nat.beq pc 319 then (.iastore, 320, (0, 0, 0), 0, 0, []) else TN) else (bif Nat.beq pc 320 then (.dup, 321, (0, 0, 0), 0, 0, []) else TN))) else (bif Nat.blt pc 323 then (bif Nat.blt pc 322 then (bif Nat.beq pc 321 then (.iconst 1, 322, (0, 0, 0), 1, 0, []) else TN) else (bif Nat.beq pc 322 then (.iconst (-1), 323, (0, 0, 0), -1, 0, []) else TN)) else (bif Nat.blt pc 324 then (bif Nat.beq pc 323 then (.iastore, 324, (0, 0, 0), 0, 0, []) else TN) else (bif Nat.beq pc 324 then (.putfield 101, 327, (12, 41, 0), 0, 0, []) else TN))))) else (bif Nat.blt pc 340 then (bif Nat.blt pc 332 then (bif Nat.blt pc 328 then (bif Nat.beq pc 327 then (.aload_n 0, 328, (0, 0, 0), 0, 0, []) else TN) else (bif Nat.blt pc 330 then (bif Nat.beq pc 328 then (.bipush 80, 330, (0, 0, 0), 80, 0, []) else TN) else (bif Nat.beq pc 330 then (.newarray .short, 332, (21, 80, 0), 0, 0, []) else TN))) else (bif Nat.blt pc 336 then (bif Nat.blt pc 335 then (bif Nat.beq pc 332 then (.putfield 104, 335, (12, 42, 0), 0, 0, []) else TN) else (bif Nat.beq pc 335 then (.aload_n 0, 336, (0, 0, 0), 0, 0, []) else TN)) else (bif Nat.blt pc 338 then (bif Nat.beq pc 336 then (.bipush 40, 338, (0, 0, 0), 40, 0, []) else TN) else (bif Nat.beq pc 338 then (.newarray .int, 340, (20, 40, 0), 0, 0, []) else TN)))) else (bif Nat.blt pc 348 then (bif Nat.blt pc 344 then (bif Nat.blt pc 343 then (bif Nat.beq pc 340 then (.putfield 108, 343, (12, 43, 0), 0, 0, []) else TN) else (bif Nat.beq pc 343 then (.aload_n 0, 344, (0, 0, 0), 0, 0, []) else TN)) else (bif Nat.blt pc 346 then (bif Nat.beq pc 344 then (.bipush 40, 346, (0, 0, 0), 40, 0, []) else TN) else (bif Nat.beq pc 346 then (.newarray .boolean, 348, (22, 40, 0), 0, 0, []) else TN))) else (bif Nat.blt pc 352 then (bif Nat.blt pc 351 then (bif Nat.beq pc 348 then (.putfield 111, 351, (12, 44, 0), 0, 0, []) else TN) else (bif Nat.beq pc 351 then (.aload_n 0, 352, (0, 0, 0), 0, 0, []) else TN)) else (bif Nat.blt pc 354 then (bif Nat.beq pc 352 then (.bipush 40, 354, (0, 0, 0), 40, 0, []) else TN) else (bif Nat.beq pc 354 then (.newarray .boolean, 356, (22, 40, 0), 0, 0, []) else TN)))))) else (bif Nat.blt pc 386 then (bif Nat.blt pc 370 then (bif Nat.blt pc 362 then (bif Nat.blt pc 359 then (bif Nat.beq pc 356 then (.putfield 115, 359, (12, 45, 0), 0, 0, []) else TN) else (bif Nat.blt pc 360 then (bif Nat.beq pc 359 then (.aload_n 0, 360, (0, 0, 0), 0, 0, []) else TN) else (bif Nat.beq pc 360 then (.bipush 13, 362, (0, 0, 0), 13, 0, []) else TN))) else (bif Nat.blt pc 367 then (bif Nat.blt pc 364 then (bif Nat.beq pc 362 then (.newarray .int, 364, (20, 13, 0), 0, 0, []) else TN) else (bif Nat.beq pc 364 then (.putfield 118, 367, (12, 46, 0), 0, 0, []) else TN)) else (bif Nat.blt pc 368 then (bif Nat.beq pc 367 then (.aload_n 0, 368, (0, 0, 0), 0, 0, []) else TN) else (bif Nat.beq pc 368 then (.bipush 6, 370, (0, 0, 0), 6, 0, []) else TN)))) else (bif Nat.blt pc 378 then (bif Nat.blt pc 375 then (bif Nat.blt pc 372 then (bif Nat.beq pc 370 then (.newarray .int, 372, (20, 6, 0), 0, 0, []) else TN) else (bif Nat.beq pc 372 then (.putfield 121, 375, (12, 48, 0), 0, 0, []) else TN)) else (bif Nat.blt pc 376 then (bif Nat.beq pc 375 then (.aload_n 0, 376, (0, 0, 0), 0, 0, []) else TN) else (bif Nat.beq pc 376 then (.bipush 6, 378, (0, 0, 0), 6, 0, []) else TN))) else (bif Nat.blt pc 383 then (bif Nat.blt pc 380 then (bif Nat.beq pc 378 then (.newarray .int, 380, (20, 6, 0), 0, 0, []) else TN) else (bif Nat.beq pc 380 then (.putfield 124, 383, (12, 49, 0), 0, 0, []) else TN)) else (bif Nat.blt pc 384 then (bif Nat.beq pc 383 then (.aload_n 0, 384, (0, 0, 0), 0, 0, []) else TN) else (bif Nat.beq pc 384 then (.bipush 6, 386, (0, 0, 0), 6, 0, []) else TN))))) else (bif Nat.blt pc 400 then (bif Nat.blt pc 392 then (bif Nat.blt pc 388 then (bif Nat.beq pc 386 then (.newarray .int, 388, (20, 6, 0), 0, 0, []) else TN) else (bif Nat.blt pc 391 then (bif Nat.beq pc 388 then (.putfield 127, 391, (12, 50, 0), 0, 0, []) else TN) else (bif Nat.beq pc 391 then (.aload_n 0, 392, (0, 0, 0), 0, 0, []) else TN))) else (bif Nat.blt pc 396 then (bif Nat.blt pc 394 then (bif Nat.beq pc 392 then (.bipush 6, 394, (0, 0, 0), 6, 0, []) else TN) else (bif Nat.beq pc 394 then (.newarray .int, 396, (20, 6, 0), 0, 0, []) else TN)) else (bif Nat.blt pc 399 then (bif Nat.beq pc 396 then (.putfield 130, 399, (12, 51, 0), 0, 0, []) else TN) else (bif Nat.beq pc 399 then (.aload_n 0, 400, (0, 0, 0), 0, 0, []) else TN)))) else (bif Nat.blt pc 407 then (bif Nat.blt pc 403 then (bif Nat.blt pc 401 then (bif Nat.beq pc 400 then (.iconst 3, 401, (0, 0, 0), 3, 0, []) else TN) else (bif Nat.beq pc 401 then (.newarray .int, 403, (20, 3, 0), 0, 0, []) else TN)) else (bif Nat.blt pc 406 then (bif Nat.beq pc 403 then (.putfield 133, 406, (12, 61, 0), 0, 0, []) else TN) else (bif Nat.beq pc 406 then (.aload_n 0, 407, (0, 0, 0), 0, 0, []) else TN))) else (bif Nat.blt pc 411 then (bif Nat.blt pc 409 then (bif Nat.beq pc 407 then (.bipush 40, 409, (0, 0, 0), 40, 0, []) else TN) else (bif Nat.beq pc 409 then (.newarray .short, 411, (21, 40, 0), 0, 0, []) else TN)) else (bif Nat.blt pc 414 then (bif Nat.beq pc 411 then (.putfield 136, 414, (12, 62, 0), 0, 0, []) else TN) else (bif Nat.beq pc 414 then (.return_, 415, (0, 0, 0), 0, 0, []) else TN))))))))
def tb_X12_init (pc : Nat) : TI := bif Nat.ble 415 pc then TN else tt_X12_init pc
theorem ok_X12_init : tOK 12 (decide ("<init>" = "<init>")) cX12_init tb_X12_init := tOK_of 415 tn_of (by decide +kernel)
def f_X12_init_406 (L : Lay) (σ : Sto) (a0 : Nat) : Option (Lay × Sto) := (if (40 : Int32) = nI 40 then (al L σ 21 40 40).bind fun q1 => (putR q1.2.2 a0 62 (some q1.1)).bind fun σ2 => some (q1.2.1, σ2) else none)
def A_X12_init_406 (c : Lay → Sto → Nat → Option (Lay × Sto)) (lc : List (Option AV)) (st : List AV) (L : Lay) (σ : Sto) : Option (Lay × Sto) := match lc, st with
  | [some (.inr (.inr (.inl (ta0, some a0))))], [] => bif Nat.beq ta0 12 && true then c L σ a0 else none
  | _, _ => none
def f_X12_init_399 (L : Lay) (σ : Sto) (a0 : Nat) : Option (Lay × Sto) := (if (3 : Int32) = nI 3 then (al L σ 20 3 3).bind fun q3 => (putR q3.2.2 a0 61 (some q3.1)).bind fun σ4 => (f_X12_init_406) q3.2.1 σ4 a0 else none)
def A_X12_init_399 (c : Lay → Sto → Nat → Option (Lay × Sto)) (lc : List (Option AV)) (st : List AV) (L : Lay) (σ : Sto) : Option (Lay × Sto) := match lc, st with
  | [some (.inr (.inr (.inl (ta0, some a0))))], [] => bif Nat.beq ta0 12 && true then c L σ a0 else none
  | _, _ => none
def f_X12_init_391 (L : Lay) (σ : Sto) (a0 : Nat) : Option (Lay × Sto) := (if (6 : Int32) = nI 6 then (al L σ 20 6 6).bind fun q5 => (putR q5.2.2 a0 51 (some q5.1)).bind fun σ6 => (f_X12_init_399) q5.2.1 σ6 a0 else none)
def A_X12_init_391 (c : Lay → Sto → Nat → Option (Lay × Sto)) (lc : List (Option AV)) (st : List AV) (L : Lay) (σ : Sto) : Option (Lay × Sto) := match lc, st with
  | [some (.inr (.inr (.inl (ta0, some a0))))], [] => bif Nat.beq ta0 12 && true then c L σ a0 else none
  | _, _ => none
def f_X12_init_383 (L : Lay) (σ : Sto) (a0 : Nat) : Option (Lay × Sto) := (if (6 : Int32) = nI 6 then (al L σ 20 6 6).bind fun q7 => (putR q7.2.2 a0 50 (some q7.1)).bind fun σ8 => (f_X12_init_391) q7.2.1 σ8 a0 else none)
def A_X12_init_383 (c : Lay → Sto → Nat → Option (Lay × Sto)) (lc : List (Option AV)) (st : List AV) (L : Lay) (σ : Sto) : Option (Lay × Sto) := match lc, st with
  | [some (.inr (.inr (.inl (ta0, some a0))))], [] => bif Nat.beq ta0 12 && true then c L σ a0 else none
  | _, _ => none
def f_X12_init_375 (L : Lay) (σ : Sto) (a0 : Nat) : Option (Lay × Sto) := (if (6 : Int32) = nI 6 then (al L σ 20 6 6).bind fun q9 => (putR q9.2.2 a0 49 (some q9.1)).bind fun σ10 => (f_X12_init_383) q9.2.1 σ10 a0 else none)
def A_X12_init_375 (c : Lay → Sto → Nat → Option (Lay × Sto)) (lc : List (Option AV)) (st : List AV) (L : Lay) (σ : Sto) : Option (Lay × Sto) := match lc, st with
  | [some (.inr (.inr (.inl (ta0, some a0))))], [] => bif Nat.beq ta0 12 && true then c L σ a0 else none
  | _, _ => none
def f_X12_init_367 (L : Lay) (σ : Sto) (a0 : Nat) : Option (Lay × Sto) := (if (6 : Int32) = nI 6 then (al L σ 20 6 6).bind fun q11 => (putR q11.2.2 a0 48 (some q11.1)).bind fun σ12 => (f_X12_init_375) q11.2.1 σ12 a0 else none)
def A_X12_init_367 (c : Lay → Sto → Nat → Option (Lay × Sto)) (lc : List (Option AV)) (st : List AV) (L : Lay) (σ : Sto) : Option (Lay × Sto) := match lc, st with
  | [some (.inr (.inr (.inl (ta0, some a0))))], [] => bif Nat.beq ta0 12 && true then c L σ a0 else none
  | _, _ => none
def f_X12_init_359 (L : Lay) (σ : Sto) (a0 : Nat) : Option (Lay × Sto) := (if (13 : Int32) = nI 13 then (al L σ 20 13 13).bind fun q13 => (putR q13.2.2 a0 46 (some q13.1)).bind fun σ14 => (f_X12_init_367) q13.2.1 σ14 a0 else none)
def A_X12_init_359 (c : Lay → Sto → Nat → Option (Lay × Sto)) (lc : List (Option AV)) (st : List AV) (L : Lay) (σ : Sto) : Option (Lay × Sto) := match lc, st with
  | [some (.inr (.inr (.inl (ta0, some a0))))], [] => bif Nat.beq ta0 12 && true then c L σ a0 else none
  | _, _ => none
def f_X12_init_351 (L : Lay) (σ : Sto) (a0 : Nat) : Option (Lay × Sto) := (if (40 : Int32) = nI 40 then (al L σ 22 40 40).bind fun q15 => (putR q15.2.2 a0 45 (some q15.1)).bind fun σ16 => (f_X12_init_359) q15.2.1 σ16 a0 else none)
def A_X12_init_351 (c : Lay → Sto → Nat → Option (Lay × Sto)) (lc : List (Option AV)) (st : List AV) (L : Lay) (σ : Sto) : Option (Lay × Sto) := match lc, st with
  | [some (.inr (.inr (.inl (ta0, some a0))))], [] => bif Nat.beq ta0 12 && true then c L σ a0 else none
  | _, _ => none
def f_X12_init_343 (L : Lay) (σ : Sto) (a0 : Nat) : Option (Lay × Sto) := (if (40 : Int32) = nI 40 then (al L σ 22 40 40).bind fun q17 => (putR q17.2.2 a0 44 (some q17.1)).bind fun σ18 => (f_X12_init_351) q17.2.1 σ18 a0 else none)
def A_X12_init_343 (c : Lay → Sto → Nat → Option (Lay × Sto)) (lc : List (Option AV)) (st : List AV) (L : Lay) (σ : Sto) : Option (Lay × Sto) := match lc, st with
  | [some (.inr (.inr (.inl (ta0, some a0))))], [] => bif Nat.beq ta0 12 && true then c L σ a0 else none
  | _, _ => none
def f_X12_init_335 (L : Lay) (σ : Sto) (a0 : Nat) : Option (Lay × Sto) := (if (40 : Int32) = nI 40 then (al L σ 20 40 40).bind fun q19 => (putR q19.2.2 a0 43 (some q19.1)).bind fun σ20 => (f_X12_init_343) q19.2.1 σ20 a0 else none)
def A_X12_init_335 (c : Lay → Sto → Nat → Option (Lay × Sto)) (lc : List (Option AV)) (st : List AV) (L : Lay) (σ : Sto) : Option (Lay × Sto) := match lc, st with
  | [some (.inr (.inr (.inl (ta0, some a0))))], [] => bif Nat.beq ta0 12 && true then c L σ a0 else none
  | _, _ => none
def f_X12_init_327 (L : Lay) (σ : Sto) (a0 : Nat) : Option (Lay × Sto) := (if (80 : Int32) = nI 80 then (al L σ 21 80 80).bind fun q21 => (putR q21.2.2 a0 42 (some q21.1)).bind fun σ22 => (f_X12_init_335) q21.2.1 σ22 a0 else none)
def A_X12_init_327 (c : Lay → Sto → Nat → Option (Lay × Sto)) (lc : List (Option AV)) (st : List AV) (L : Lay) (σ : Sto) : Option (Lay × Sto) := match lc, st with
  | [some (.inr (.inr (.inl (ta0, some a0))))], [] => bif Nat.beq ta0 12 && true then c L σ a0 else none
  | _, _ => none
def f_X12_init_312 (L : Lay) (σ : Sto) (a0 : Nat) : Option (Lay × Sto) := (if (2 : Int32) = nI 2 then (al L σ 20 2 2).bind fun q23 => (wI q23.2.1 q23.2.2 q23.1 0 (-1)).bind fun σ24 => (wI q23.2.1 σ24 q23.1 1 (-1)).bind fun σ25 => (putR σ25 a0 41 (some q23.1)).bind fun σ26 => (f_X12_init_327) q23.2.1 σ26 a0 else none)
def A_X12_init_312 (c : Lay → Sto → Nat → Option (Lay × Sto)) (lc : List (Option AV)) (st : List AV) (L : Lay) (σ : Sto) : Option (Lay × Sto) := match lc, st with
  | [some (.inr (.inr (.inl (ta0, some a0))))], [] => bif Nat.beq ta0 12 && true then c L σ a0 else none
  | _, _ => none
def f_X12_init_304 (L : Lay) (σ : Sto) (a0 : Nat) : Option (Lay × Sto) := (if (30 : Int32) = nI 30 then (al L σ 20 30 30).bind fun q27 => (putR q27.2.2 a0 40 (some q27.1)).bind fun σ28 => (f_X12_init_312) q27.2.1 σ28 a0 else none)
def A_X12_init_304 (c : Lay → Sto → Nat → Option (Lay × Sto)) (lc : List (Option AV)) (st : List AV) (L : Lay) (σ : Sto) : Option (Lay × Sto) := match lc, st with
  | [some (.inr (.inr (.inl (ta0, some a0))))], [] => bif Nat.beq ta0 12 && true then c L σ a0 else none
  | _, _ => none
def f_X12_init_271 (L : Lay) (σ : Sto) (a0 : Nat) : Option (Lay × Sto) := (if (5 : Int32) = nI 5 then (al L σ 20 5 5).bind fun q29 => (wI q29.2.1 q29.2.2 q29.1 0 1000000).bind fun σ30 => (wI q29.2.1 σ30 q29.1 1 100).bind fun σ31 => (wI q29.2.1 σ31 q29.1 2 9999).bind fun σ32 => (wI q29.2.1 σ32 q29.1 3 12).bind fun σ33 => (wI q29.2.1 σ33 q29.1 4 20).bind fun σ34 => (putR σ34 a0 38 (some q29.1)).bind fun σ35 => (f_X12_init_304) q29.2.1 σ35 a0 else none)
def A_X12_init_271 (c : Lay → Sto → Nat → Option (Lay × Sto)) (lc : List (Option AV)) (st : List AV) (L : Lay) (σ : Sto) : Option (Lay × Sto) := match lc, st with
  | [some (.inr (.inr (.inl (ta0, some a0))))], [] => bif Nat.beq ta0 12 && true then c L σ a0 else none
  | _, _ => none
def f_X12_init_244 (L : Lay) (σ : Sto) (a0 : Nat) : Option (Lay × Sto) := (if (5 : Int32) = nI 5 then (al L σ 20 5 5).bind fun q36 => (wI q36.2.1 q36.2.2 q36.1 0 0).bind fun σ37 => (wI q36.2.1 σ37 q36.1 1 0).bind fun σ38 => (wI q36.2.1 σ38 q36.1 2 0).bind fun σ39 => (wI q36.2.1 σ39 q36.1 3 1).bind fun σ40 => (wI q36.2.1 σ40 q36.1 4 1).bind fun σ41 => (putR σ41 a0 37 (some q36.1)).bind fun σ42 => (f_X12_init_271) q36.2.1 σ42 a0 else none)
def A_X12_init_244 (c : Lay → Sto → Nat → Option (Lay × Sto)) (lc : List (Option AV)) (st : List AV) (L : Lay) (σ : Sto) : Option (Lay × Sto) := match lc, st with
  | [some (.inr (.inr (.inl (ta0, some a0))))], [] => bif Nat.beq ta0 12 && true then c L σ a0 else none
  | _, _ => none
def f_X12_init_216 (L : Lay) (σ : Sto) (a0 : Nat) : Option (Lay × Sto) := (if (5 : Int32) = nI 5 then (al L σ 20 5 5).bind fun q43 => (wI q43.2.1 q43.2.2 q43.1 0 0).bind fun σ44 => (wI q43.2.1 σ44 q43.1 1 50).bind fun σ45 => (wI q43.2.1 σ45 q43.1 2 0).bind fun σ46 => (wI q43.2.1 σ46 q43.1 3 3).bind fun σ47 => (wI q43.2.1 σ47 q43.1 4 3).bind fun σ48 => (putR σ48 a0 36 (some q43.1)).bind fun σ49 => (f_X12_init_244) q43.2.1 σ49 a0 else none)
def A_X12_init_216 (c : Lay → Sto → Nat → Option (Lay × Sto)) (lc : List (Option AV)) (st : List AV) (L : Lay) (σ : Sto) : Option (Lay × Sto) := match lc, st with
  | [some (.inr (.inr (.inl (ta0, some a0))))], [] => bif Nat.beq ta0 12 && true then c L σ a0 else none
  | _, _ => none
def f_X12_init_208 (L : Lay) (σ : Sto) (a0 : Nat) : Option (Lay × Sto) := (if (12 : Int32) = nI 12 then (al L σ 20 12 12).bind fun q50 => (putR q50.2.2 a0 35 (some q50.1)).bind fun σ51 => (f_X12_init_216) q50.2.1 σ51 a0 else none)
def A_X12_init_208 (c : Lay → Sto → Nat → Option (Lay × Sto)) (lc : List (Option AV)) (st : List AV) (L : Lay) (σ : Sto) : Option (Lay × Sto) := match lc, st with
  | [some (.inr (.inr (.inl (ta0, some a0))))], [] => bif Nat.beq ta0 12 && true then c L σ a0 else none
  | _, _ => none
def f_X12_init_200 (L : Lay) (σ : Sto) (a0 : Nat) : Option (Lay × Sto) := (if (12 : Int32) = nI 12 then (al L σ 20 12 12).bind fun q52 => (putR q52.2.2 a0 34 (some q52.1)).bind fun σ53 => (f_X12_init_208) q52.2.1 σ53 a0 else none)
def A_X12_init_200 (c : Lay → Sto → Nat → Option (Lay × Sto)) (lc : List (Option AV)) (st : List AV) (L : Lay) (σ : Sto) : Option (Lay × Sto) := match lc, st with
  | [some (.inr (.inr (.inl (ta0, some a0))))], [] => bif Nat.beq ta0 12 && true then c L σ a0 else none
  | _, _ => none
def f_X12_init_192 (L : Lay) (σ : Sto) (a0 : Nat) : Option (Lay × Sto) := (if (12 : Int32) = nI 12 then (al L σ 20 12 12).bind fun q54 => (putR q54.2.2 a0 33 (some q54.1)).bind fun σ55 => (f_X12_init_200) q54.2.1 σ55 a0 else none)
def A_X12_init_192 (c : Lay → Sto → Nat → Option (Lay × Sto)) (lc : List (Option AV)) (st : List AV) (L : Lay) (σ : Sto) : Option (Lay × Sto) := match lc, st with
  | [some (.inr (.inr (.inl (ta0, some a0))))], [] => bif Nat.beq ta0 12 && true then c L σ a0 else none
  | _, _ => none
def f_X12_init_184 (L : Lay) (σ : Sto) (a0 : Nat) : Option (Lay × Sto) := (if (12 : Int32) = nI 12 then (al L σ 20 12 12).bind fun q56 => (putR q56.2.2 a0 32 (some q56.1)).bind fun σ57 => (f_X12_init_192) q56.2.1 σ57 a0 else none)
def A_X12_init_184 (c : Lay → Sto → Nat → Option (Lay × Sto)) (lc : List (Option AV)) (st : List AV) (L : Lay) (σ : Sto) : Option (Lay × Sto) := match lc, st with
  | [some (.inr (.inr (.inl (ta0, some a0))))], [] => bif Nat.beq ta0 12 && true then c L σ a0 else none
  | _, _ => none
def f_X12_init_176 (L : Lay) (σ : Sto) (a0 : Nat) : Option (Lay × Sto) := (if (12 : Int32) = nI 12 then (al L σ 20 12 12).bind fun q58 => (putR q58.2.2 a0 31 (some q58.1)).bind fun σ59 => (f_X12_init_184) q58.2.1 σ59 a0 else none)
def A_X12_init_176 (c : Lay → Sto → Nat → Option (Lay × Sto)) (lc : List (Option AV)) (st : List AV) (L : Lay) (σ : Sto) : Option (Lay × Sto) := match lc, st with
  | [some (.inr (.inr (.inl (ta0, some a0))))], [] => bif Nat.beq ta0 12 && true then c L σ a0 else none
  | _, _ => none
def f_X12_init_168 (L : Lay) (σ : Sto) (a0 : Nat) : Option (Lay × Sto) := (if (12 : Int32) = nI 12 then (al L σ 20 12 12).bind fun q60 => (putR q60.2.2 a0 30 (some q60.1)).bind fun σ61 => (f_X12_init_176) q60.2.1 σ61 a0 else none)
def A_X12_init_168 (c : Lay → Sto → Nat → Option (Lay × Sto)) (lc : List (Option AV)) (st : List AV) (L : Lay) (σ : Sto) : Option (Lay × Sto) := match lc, st with
  | [some (.inr (.inr (.inl (ta0, some a0))))], [] => bif Nat.beq ta0 12 && true then c L σ a0 else none
  | _, _ => none
def f_X12_init_161 (L : Lay) (σ : Sto) (a0 : Nat) : Option (Lay × Sto) := (if (3 : Int32) = nI 3 then (al L σ 20 3 3).bind fun q62 => (putR q62.2.2 a0 28 (some q62.1)).bind fun σ63 => (f_X12_init_168) q62.2.1 σ63 a0 else none)
def A_X12_init_161 (c : Lay → Sto → Nat → Option (Lay × Sto)) (lc : List (Option AV)) (st : List AV) (L : Lay) (σ : Sto) : Option (Lay × Sto) := match lc, st with
  | [some (.inr (.inr (.inl (ta0, some a0))))], [] => bif Nat.beq ta0 12 && true then c L σ a0 else none
  | _, _ => none
def f_X12_init_153 (L : Lay) (σ : Sto) (a0 : Nat) : Option (Lay × Sto) := (if (108 : Int32) = nI 108 then (al L σ 20 108 108).bind fun q64 => (putR q64.2.2 a0 24 (some q64.1)).bind fun σ65 => (f_X12_init_161) q64.2.1 σ65 a0 else none)
def A_X12_init_153 (c : Lay → Sto → Nat → Option (Lay × Sto)) (lc : List (Option AV)) (st : List AV) (L : Lay) (σ : Sto) : Option (Lay × Sto) := match lc, st with
  | [some (.inr (.inr (.inl (ta0, some a0))))], [] => bif Nat.beq ta0 12 && true then c L σ a0 else none
  | _, _ => none
def f_X12_init_145 (L : Lay) (σ : Sto) (a0 : Nat) : Option (Lay × Sto) := (if (108 : Int32) = nI 108 then (al L σ 20 108 108).bind fun q66 => (putR q66.2.2 a0 23 (some q66.1)).bind fun σ67 => (f_X12_init_153) q66.2.1 σ67 a0 else none)
def A_X12_init_145 (c : Lay → Sto → Nat → Option (Lay × Sto)) (lc : List (Option AV)) (st : List AV) (L : Lay) (σ : Sto) : Option (Lay × Sto) := match lc, st with
  | [some (.inr (.inr (.inl (ta0, some a0))))], [] => bif Nat.beq ta0 12 && true then c L σ a0 else none
  | _, _ => none
def f_X12_init_136 (L : Lay) (σ : Sto) (a0 : Nat) : Option (Lay × Sto) := (if (480 : Int32) = nI 480 then (al L σ 20 480 480).bind fun q68 => (putR q68.2.2 a0 22 (some q68.1)).bind fun σ69 => (f_X12_init_145) q68.2.1 σ69 a0 else none)
def A_X12_init_136 (c : Lay → Sto → Nat → Option (Lay × Sto)) (lc : List (Option AV)) (st : List AV) (L : Lay) (σ : Sto) : Option (Lay × Sto) := match lc, st with
  | [some (.inr (.inr (.inl (ta0, some a0))))], [] => bif Nat.beq ta0 12 && true then c L σ a0 else none
  | _, _ => none
def f_X12_init_127 (L : Lay) (σ : Sto) (a0 : Nat) : Option (Lay × Sto) := (if (480 : Int32) = nI 480 then (al L σ 20 480 480).bind fun q70 => (putR q70.2.2 a0 21 (some q70.1)).bind fun σ71 => (f_X12_init_136) q70.2.1 σ71 a0 else none)
def A_X12_init_127 (c : Lay → Sto → Nat → Option (Lay × Sto)) (lc : List (Option AV)) (st : List AV) (L : Lay) (σ : Sto) : Option (Lay × Sto) := match lc, st with
  | [some (.inr (.inr (.inl (ta0, some a0))))], [] => bif Nat.beq ta0 12 && true then c L σ a0 else none
  | _, _ => none
def f_X12_init_118 (L : Lay) (σ : Sto) (a0 : Nat) : Option (Lay × Sto) := (if (480 : Int32) = nI 480 then (al L σ 20 480 480).bind fun q72 => (putR q72.2.2 a0 20 (some q72.1)).bind fun σ73 => (f_X12_init_127) q72.2.1 σ73 a0 else none)
def A_X12_init_118 (c : Lay → Sto → Nat → Option (Lay × Sto)) (lc : List (Option AV)) (st : List AV) (L : Lay) (σ : Sto) : Option (Lay × Sto) := match lc, st with
  | [some (.inr (.inr (.inl (ta0, some a0))))], [] => bif Nat.beq ta0 12 && true then c L σ a0 else none
  | _, _ => none
def f_X12_init_110 (L : Lay) (σ : Sto) (a0 : Nat) : Option (Lay × Sto) := (if (12 : Int32) = nI 12 then (al L σ 20 12 12).bind fun q74 => (putR q74.2.2 a0 19 (some q74.1)).bind fun σ75 => (f_X12_init_118) q74.2.1 σ75 a0 else none)
def A_X12_init_110 (c : Lay → Sto → Nat → Option (Lay × Sto)) (lc : List (Option AV)) (st : List AV) (L : Lay) (σ : Sto) : Option (Lay × Sto) := match lc, st with
  | [some (.inr (.inr (.inl (ta0, some a0))))], [] => bif Nat.beq ta0 12 && true then c L σ a0 else none
  | _, _ => none
def f_X12_init_102 (L : Lay) (σ : Sto) (a0 : Nat) : Option (Lay × Sto) := (if (12 : Int32) = nI 12 then (al L σ 20 12 12).bind fun q76 => (putR q76.2.2 a0 18 (some q76.1)).bind fun σ77 => (f_X12_init_110) q76.2.1 σ77 a0 else none)
def A_X12_init_102 (c : Lay → Sto → Nat → Option (Lay × Sto)) (lc : List (Option AV)) (st : List AV) (L : Lay) (σ : Sto) : Option (Lay × Sto) := match lc, st with
  | [some (.inr (.inr (.inl (ta0, some a0))))], [] => bif Nat.beq ta0 12 && true then c L σ a0 else none
  | _, _ => none
def f_X12_init_94 (L : Lay) (σ : Sto) (a0 : Nat) : Option (Lay × Sto) := (if (12 : Int32) = nI 12 then (al L σ 20 12 12).bind fun q78 => (putR q78.2.2 a0 17 (some q78.1)).bind fun σ79 => (f_X12_init_102) q78.2.1 σ79 a0 else none)
def A_X12_init_94 (c : Lay → Sto → Nat → Option (Lay × Sto)) (lc : List (Option AV)) (st : List AV) (L : Lay) (σ : Sto) : Option (Lay × Sto) := match lc, st with
  | [some (.inr (.inr (.inl (ta0, some a0))))], [] => bif Nat.beq ta0 12 && true then c L σ a0 else none
  | _, _ => none
def f_X12_init_86 (L : Lay) (σ : Sto) (a0 : Nat) : Option (Lay × Sto) := (if (40 : Int32) = nI 40 then (al L σ 20 40 40).bind fun q80 => (putR q80.2.2 a0 15 (some q80.1)).bind fun σ81 => (f_X12_init_94) q80.2.1 σ81 a0 else none)
def A_X12_init_86 (c : Lay → Sto → Nat → Option (Lay × Sto)) (lc : List (Option AV)) (st : List AV) (L : Lay) (σ : Sto) : Option (Lay × Sto) := match lc, st with
  | [some (.inr (.inr (.inl (ta0, some a0))))], [] => bif Nat.beq ta0 12 && true then c L σ a0 else none
  | _, _ => none
def f_X12_init_78 (L : Lay) (σ : Sto) (a0 : Nat) : Option (Lay × Sto) := (if (40 : Int32) = nI 40 then (al L σ 20 40 40).bind fun q82 => (putR q82.2.2 a0 14 (some q82.1)).bind fun σ83 => (f_X12_init_86) q82.2.1 σ83 a0 else none)
def A_X12_init_78 (c : Lay → Sto → Nat → Option (Lay × Sto)) (lc : List (Option AV)) (st : List AV) (L : Lay) (σ : Sto) : Option (Lay × Sto) := match lc, st with
  | [some (.inr (.inr (.inl (ta0, some a0))))], [] => bif Nat.beq ta0 12 && true then c L σ a0 else none
  | _, _ => none
def f_X12_init_69 (L : Lay) (σ : Sto) (a0 : Nat) : Option (Lay × Sto) := (if (280 : Int32) = nI 280 then (al L σ 20 280 280).bind fun q84 => (putR q84.2.2 a0 12 (some q84.1)).bind fun σ85 => (f_X12_init_78) q84.2.1 σ85 a0 else none)
def A_X12_init_69 (c : Lay → Sto → Nat → Option (Lay × Sto)) (lc : List (Option AV)) (st : List AV) (L : Lay) (σ : Sto) : Option (Lay × Sto) := match lc, st with
  | [some (.inr (.inr (.inl (ta0, some a0))))], [] => bif Nat.beq ta0 12 && true then c L σ a0 else none
  | _, _ => none
def f_X12_init_60 (L : Lay) (σ : Sto) (a0 : Nat) : Option (Lay × Sto) := (if (280 : Int32) = nI 280 then (al L σ 20 280 280).bind fun q86 => (putR q86.2.2 a0 11 (some q86.1)).bind fun σ87 => (f_X12_init_69) q86.2.1 σ87 a0 else none)
def A_X12_init_60 (c : Lay → Sto → Nat → Option (Lay × Sto)) (lc : List (Option AV)) (st : List AV) (L : Lay) (σ : Sto) : Option (Lay × Sto) := match lc, st with
  | [some (.inr (.inr (.inl (ta0, some a0))))], [] => bif Nat.beq ta0 12 && true then c L σ a0 else none
  | _, _ => none
def f_X12_init_52 (L : Lay) (σ : Sto) (a0 : Nat) : Option (Lay × Sto) := (if (40 : Int32) = nI 40 then (al L σ 20 40 40).bind fun q88 => (putR q88.2.2 a0 10 (some q88.1)).bind fun σ89 => (f_X12_init_60) q88.2.1 σ89 a0 else none)
def A_X12_init_52 (c : Lay → Sto → Nat → Option (Lay × Sto)) (lc : List (Option AV)) (st : List AV) (L : Lay) (σ : Sto) : Option (Lay × Sto) := match lc, st with
  | [some (.inr (.inr (.inl (ta0, some a0))))], [] => bif Nat.beq ta0 12 && true then c L σ a0 else none
  | _, _ => none
def f_X12_init_44 (L : Lay) (σ : Sto) (a0 : Nat) : Option (Lay × Sto) := (if (40 : Int32) = nI 40 then (al L σ 20 40 40).bind fun q90 => (putR q90.2.2 a0 9 (some q90.1)).bind fun σ91 => (f_X12_init_52) q90.2.1 σ91 a0 else none)
def A_X12_init_44 (c : Lay → Sto → Nat → Option (Lay × Sto)) (lc : List (Option AV)) (st : List AV) (L : Lay) (σ : Sto) : Option (Lay × Sto) := match lc, st with
  | [some (.inr (.inr (.inl (ta0, some a0))))], [] => bif Nat.beq ta0 12 && true then c L σ a0 else none
  | _, _ => none
def f_X12_init_36 (L : Lay) (σ : Sto) (a0 : Nat) : Option (Lay × Sto) := (if (40 : Int32) = nI 40 then (al L σ 20 40 40).bind fun q92 => (putR q92.2.2 a0 8 (some q92.1)).bind fun σ93 => (f_X12_init_44) q92.2.1 σ93 a0 else none)
def A_X12_init_36 (c : Lay → Sto → Nat → Option (Lay × Sto)) (lc : List (Option AV)) (st : List AV) (L : Lay) (σ : Sto) : Option (Lay × Sto) := match lc, st with
  | [some (.inr (.inr (.inl (ta0, some a0))))], [] => bif Nat.beq ta0 12 && true then c L σ a0 else none
  | _, _ => none
def f_X12_init_28 (L : Lay) (σ : Sto) (a0 : Nat) : Option (Lay × Sto) := (if (40 : Int32) = nI 40 then (al L σ 20 40 40).bind fun q94 => (putR q94.2.2 a0 7 (some q94.1)).bind fun σ95 => (f_X12_init_36) q94.2.1 σ95 a0 else none)
def A_X12_init_28 (c : Lay → Sto → Nat → Option (Lay × Sto)) (lc : List (Option AV)) (st : List AV) (L : Lay) (σ : Sto) : Option (Lay × Sto) := match lc, st with
  | [some (.inr (.inr (.inl (ta0, some a0))))], [] => bif Nat.beq ta0 12 && true then c L σ a0 else none
  | _, _ => none
def f_X12_init_20 (L : Lay) (σ : Sto) (a0 : Nat) : Option (Lay × Sto) := (if (40 : Int32) = nI 40 then (al L σ 20 40 40).bind fun q96 => (putR q96.2.2 a0 6 (some q96.1)).bind fun σ97 => (f_X12_init_28) q96.2.1 σ97 a0 else none)
def A_X12_init_20 (c : Lay → Sto → Nat → Option (Lay × Sto)) (lc : List (Option AV)) (st : List AV) (L : Lay) (σ : Sto) : Option (Lay × Sto) := match lc, st with
  | [some (.inr (.inr (.inl (ta0, some a0))))], [] => bif Nat.beq ta0 12 && true then c L σ a0 else none
  | _, _ => none
def f_X12_init_12 (L : Lay) (σ : Sto) (a0 : Nat) : Option (Lay × Sto) := (if (40 : Int32) = nI 40 then (al L σ 20 40 40).bind fun q98 => (putR q98.2.2 a0 5 (some q98.1)).bind fun σ99 => (f_X12_init_20) q98.2.1 σ99 a0 else none)
def A_X12_init_12 (c : Lay → Sto → Nat → Option (Lay × Sto)) (lc : List (Option AV)) (st : List AV) (L : Lay) (σ : Sto) : Option (Lay × Sto) := match lc, st with
  | [some (.inr (.inr (.inl (ta0, some a0))))], [] => bif Nat.beq ta0 12 && true then c L σ a0 else none
  | _, _ => none
def f_X12_init (L : Lay) (σ : Sto) (a0 : Nat) : Option (Lay × Sto) := (if (6 : Int32) = nI 6 then (al L σ 20 6 6).bind fun q100 => (putR q100.2.2 a0 3 (some q100.1)).bind fun σ101 => (f_X12_init_12) q100.2.1 σ101 a0 else none)
def ad_X12_init : ADT := fun O L σ as k => match as with
  | [.inr (.inr (.inl (ta0, some a0)))] => bif Nat.beq ta0 12 && true then (f_X12_init L σ a0).bind fun r => k none r.1 r.2 else none
  | _ => none
abbrev cl_X12_init {O : Type} : CLT O := cl0
theorem hc_X12_init (G : GT) (l : Launch) {d : Nat} (hd : 1 ≤ d) {O : Type} : HCL G l (false, false) d (cl_X12_init (O := O)) := hcl0
theorem rt_X12_init : retOK (6, 0) none := ⟨fun h => absurd h (by decide), fun h => absurd h (by decide), fun _ => rfl⟩
set_option maxRecDepth 20000 in
theorem b_X12_init_406 {G : GT} {l : Launch} {d : Nat} {L0 : Lay} {σ0 : Sto} (hd : 1 ≤ d) : HF G l 12 "<init>" cX12_init 1 none d L0 σ0 (false, false) dcAV 406 (A_X12_init_406 f_X12_init_406) := by
  intro lc st L σ o h hI
  unfold A_X12_init_406 at h
  split at h
  · obtain ⟨hq0, hA1⟩ := bif_s h
    obtain ⟨e0, hq1⟩ := beq_and hq0
    subst e0
    exact exs (sp := []) (K := k0) ok_X12_init rt_X12_init (by omega) (hc_X12_init G l hd) hrAV hk0 242 hA1 hI
  · cases h
set_option maxRecDepth 20000 in
theorem e_X12_init_399 (g : Lay → Sto → Nat → Option (Lay × Sto)) (L : Lay) (σ : Sto) (a0 : Nat) : ex tb_X12_init (spm [406]) (6, 0) (false, false) cl_X12_init (kc 406 (A_X12_init_406 g) k0) rkAV 242 399 [some (vR 12 (some a0))] [] L σ = (if (3 : Int32) = nI 3 then (al L σ 20 3 3).bind fun q3 => (putR q3.2.2 a0 61 (some q3.1)).bind fun σ4 => g q3.2.1 σ4 a0 else none) := rfl
set_option maxRecDepth 20000 in
theorem b_X12_init_399 {G : GT} {l : Launch} {d : Nat} {L0 : Lay} {σ0 : Sto} (hd : 1 ≤ d) : HF G l 12 "<init>" cX12_init 1 none d L0 σ0 (false, false) dcAV 399 (A_X12_init_399 f_X12_init_399) := by
  intro lc st L σ o h hI
  unfold A_X12_init_399 at h
  split at h
  · obtain ⟨hq0, hA1⟩ := bif_s h
    obtain ⟨e0, hq1⟩ := beq_and hq0
    subst e0
    unfold f_X12_init_399 at hA1
    have hb := b_X12_init_406 (G := G) (l := l) (L0 := L0) (σ0 := σ0) hd
    revert hA1 hb
    generalize f_X12_init_406 = g
    intro hA1 hb
    exact exs ok_X12_init rt_X12_init (by omega) (hc_X12_init G l hd) hrAV (hkc hb hk0) 242 ((e_X12_init_399 g _ _ _).trans hA1) hI
  · cases h
set_option maxRecDepth 20000 in
theorem e_X12_init_391 (g : Lay → Sto → Nat → Option (Lay × Sto)) (L : Lay) (σ : Sto) (a0 : Nat) : ex tb_X12_init (spm [399]) (6, 0) (false, false) cl_X12_init (kc 399 (A_X12_init_399 g) k0) rkAV 242 391 [some (vR 12 (some a0))] [] L σ = (if (6 : Int32) = nI 6 then (al L σ 20 6 6).bind fun q5 => (putR q5.2.2 a0 51 (some q5.1)).bind fun σ6 => g q5.2.1 σ6 a0 else none) := rfl
set_option maxRecDepth 20000 in
theorem b_X12_init_391 {G : GT} {l : Launch} {d : Nat} {L0 : Lay} {σ0 : Sto} (hd : 1 ≤ d) : HF G l 12 "<init>" cX12_init 1 none d L0 σ0 (false, false) dcAV 391 (A_X12_init_391 f_X12_init_391) := by
  intro lc st L σ o h hI
  unfold A_X12_init_391 at h
  split at h
  · obtain ⟨hq0, hA1⟩ := bif_s h
    obtain ⟨e0, hq1⟩ := beq_and hq0
    subst e0
    unfold f_X12_init_391 at hA1
    have hb := b_X12_init_399 (G := G) (l := l) (L0 := L0) (σ0 := σ0) hd
    revert hA1 hb
    generalize f_X12_init_399 = g
    intro hA1 hb
    exact exs ok_X12_init rt_X12_init (by omega) (hc_X12_init G l hd) hrAV (hkc hb hk0) 242 ((e_X12_init_391 g _ _ _).trans hA1) hI
  · cases h
set_option maxRecDepth 20000 in
theorem e_X12_init_383 (g : Lay → Sto → Nat → Option (Lay × Sto)) (L : Lay) (σ : Sto) (a0 : Nat) : ex tb_X12_init (spm [391]) (6, 0) (false, false) cl_X12_init (kc 391 (A_X12_init_391 g) k0) rkAV 242 383 [some (vR 12 (some a0))] [] L σ = (if (6 : Int32) = nI 6 then (al L σ 20 6 6).bind fun q7 => (putR q7.2.2 a0 50 (some q7.1)).bind fun σ8 => g q7.2.1 σ8 a0 else none) := rfl
set_option maxRecDepth 20000 in
theorem b_X12_init_383 {G : GT} {l : Launch} {d : Nat} {L0 : Lay} {σ0 : Sto} (hd : 1 ≤ d) : HF G l 12 "<init>" cX12_init 1 none d L0 σ0 (false, false) dcAV 383 (A_X12_init_383 f_X12_init_383) := by
  intro lc st L σ o h hI
  unfold A_X12_init_383 at h
  split at h
  · obtain ⟨hq0, hA1⟩ := bif_s h
    obtain ⟨e0, hq1⟩ := beq_and hq0
    subst e0
    unfold f_X12_init_383 at hA1
    have hb := b_X12_init_391 (G := G) (l := l) (L0 := L0) (σ0 := σ0) hd
    revert hA1 hb
    generalize f_X12_init_391 = g
    intro hA1 hb
    exact exs ok_X12_init rt_X12_init (by omega) (hc_X12_init G l hd) hrAV (hkc hb hk0) 242 ((e_X12_init_383 g _ _ _).trans hA1) hI
  · cases h
set_option maxRecDepth 20000 in
theorem e_X12_init_375 (g : Lay → Sto → Nat → Option (Lay × Sto)) (L : Lay) (σ : Sto) (a0 : Nat) : ex tb_X12_init (spm [383]) (6, 0) (false, false) cl_X12_init (kc 383 (A_X12_init_383 g) k0) rkAV 242 375 [some (vR 12 (some a0))] [] L σ = (if (6 : Int32) = nI 6 then (al L σ 20 6 6).bind fun q9 => (putR q9.2.2 a0 49 (some q9.1)).bind fun σ10 => g q9.2.1 σ10 a0 else none) := rfl
set_option maxRecDepth 20000 in
theorem b_X12_init_375 {G : GT} {l : Launch} {d : Nat} {L0 : Lay} {σ0 : Sto} (hd : 1 ≤ d) : HF G l 12 "<init>" cX12_init 1 none d L0 σ0 (false, false) dcAV 375 (A_X12_init_375 f_X12_init_375) := by
  intro lc st L σ o h hI
  unfold A_X12_init_375 at h
  split at h
  · obtain ⟨hq0, hA1⟩ := bif_s h
    obtain ⟨e0, hq1⟩ := beq_and hq0
    subst e0
    unfold f_X12_init_375 at hA1
    have hb := b_X12_init_383 (G := G) (l := l) (L0 := L0) (σ0 := σ0) hd
    revert hA1 hb
    generalize f_X12_init_383 = g
    intro hA1 hb
    exact exs ok_X12_init rt_X12_init (by omega) (hc_X12_init G l hd) hrAV (hkc hb hk0) 242 ((e_X12_init_375 g _ _ _).trans hA1) hI
  · cases h
set_option maxRecDepth 20000 in
theorem e_X12_init_367 (g : Lay → Sto → Nat → Option (Lay × Sto)) (L : Lay) (σ : Sto) (a0 : Nat) : ex tb_X12_init (spm [375]) (6, 0) (false, false) cl_X12_init (kc 375 (A_X12_init_375 g) k0) rkAV 242 367 [some (vR 12 (some a0))] [] L σ = (if (6 : Int32) = nI 6 then (al L σ 20 6 6).bind fun q11 => (putR q11.2.2 a0 48 (some q11.1)).bind fun σ12 => g q11.2.1 σ12 a0 else none) := rfl
set_option maxRecDepth 20000 in
theorem b_X12_init_367 {G : GT} {l : Launch} {d : Nat} {L0 : Lay} {σ0 : Sto} (hd : 1 ≤ d) : HF G l 12 "<init>" cX12_init 1 none d L0 σ0 (false, false) dcAV 367 (A_X12_init_367 f_X12_init_367) := by
  intro lc st L σ o h hI
  unfold A_X12_init_367 at h
  split at h
  · obtain ⟨hq0, hA1⟩ := bif_s h
    obtain ⟨e0, hq1⟩ := beq_and hq0
    subst e0
    unfold f_X12_init_367 at hA1
    have hb := b_X12_init_375 (G := G) (l := l) (L0 := L0) (σ0 := σ0) hd
    revert hA1 hb
    generalize f_X12_init_375 = g
    intro hA1 hb
    exact exs ok_X12_init rt_X12_init (by omega) (hc_X12_init G l hd) hrAV (hkc hb hk0) 242 ((e_X12_init_367 g _ _ _).trans hA1) hI
  · cases h
set_option maxRecDepth 20000 in
theorem e_X12_init_359 (g : Lay → Sto → Nat → Option (Lay × Sto)) (L : Lay) (σ : Sto) (a0 : Nat) : ex tb_X12_init (spm [367]) (6, 0) (false, false) cl_X12_init (kc 367 (A_X12_init_367 g) k0) rkAV 242 359 [some (vR 12 (some a0))] [] L σ = (if (13 : Int32) = nI 13 then (al L σ 20 13 13).bind fun q13 => (putR q13.2.2 a0 46 (some q13.1)).bind fun σ14 => g q13.2.1 σ14 a0 else none) := rfl
set_option maxRecDepth 20000 in
theorem b_X12_init_359 {G : GT} {l : Launch} {d : Nat} {L0 : Lay} {σ0 : Sto} (hd : 1 ≤ d) : HF G l 12 "<init>" cX12_init 1 none d L0 σ0 (false, false) dcAV 359 (A_X12_init_359 f_X12_init_359) := by
  intro lc st L σ o h hI
  unfold A_X12_init_359 at h
  split at h
  · obtain ⟨hq0, hA1⟩ := bif_s h
    obtain ⟨e0, hq1⟩ := beq_and hq0
    subst e0
    unfold f_X12_init_359 at hA1
    have hb := b_X12_init_367 (G := G) (l := l) (L0 := L0) (σ0 := σ0) hd
    revert hA1 hb
    generalize f_X12_init_367 = g
    intro hA1 hb
    exact exs ok_X12_init rt_X12_init (by omega) (hc_X12_init G l hd) hrAV (hkc hb hk0) 242 ((e_X12_init_359 g _ _ _).trans hA1) hI
  · cases h
set_option maxRecDepth 20000 in
theorem e_X12_init_351 (g : Lay → Sto → Nat → Option (Lay × Sto)) (L : Lay) (σ : Sto) (a0 : Nat) : ex tb_X12_init (spm [359]) (6, 0) (false, false) cl_X12_init (kc 359 (A_X12_init_359 g) k0) rkAV 242 351 [some (vR 12 (some a0))] [] L σ = (if (40 : Int32) = nI 40 then (al L σ 22 40 40).bind fun q15 => (putR q15.2.2 a0 45 (some q15.1)).bind fun σ16 => g q15.2.1 σ16 a0 else none) := rfl
set_option maxRecDepth 20000 in
theorem b_X12_init_351 {G : GT} {l : Launch} {d : Nat} {L0 : Lay} {σ0 : Sto} (hd : 1 ≤ d) : HF G l 12 "<init>" cX12_init 1 none d L0 σ0 (false, false) dcAV 351 (A_X12_init_351 f_X12_init_351) := by
  intro lc st L σ o h hI
  unfold A_X12_init_351 at h
  split at h
  · obtain ⟨hq0, hA1⟩ := bif_s h
    obtain ⟨e0, hq1⟩ := beq_and hq0
    subst e0
    unfold f_X12_init_351 at hA1
    have hb := b_X12_init_359 (G := G) (l := l) (L0 := L0) (σ0 := σ0) hd
    revert hA1 hb
    generalize f_X12_init_359 = g
    intro hA1 hb
    exact exs ok_X12_init rt_X12_init (by omega) (hc_X12_init G l hd) hrAV (hkc hb hk0) 242 ((e_X12_init_351 g _ _ _).trans hA1) hI
  · cases h
set_option maxRecDepth 20000 in
theorem e_X12_init_343 (g : Lay → Sto → Nat → Option (Lay × Sto)) (L : Lay) (σ : Sto) (a0 : Nat) : ex tb_X12_init (spm [351]) (6, 0) (false, false) cl_X12_init (kc 351 (A_X12_init_351 g) k0) rkAV 242 343 [some (vR 12 (some a0))] [] L σ = (if (40 : Int32) = nI 40 then (al L σ 22 40 40).bind fun q17 => (putR q17.2.2 a0 44 (some q17.1)).bind fun σ18 => g q17.2.1 σ18 a0 else none) := rfl
set_option maxRecDepth 20000 in
theorem b_X12_init_343 {G : GT} {l : Launch} {d : Nat} {L0 : Lay} {σ0 : Sto} (hd : 1 ≤ d) : HF G l 12 "<init>" cX12_init 1 none d L0 σ0 (false, false) dcAV 343 (A_X12_init_343 f_X12_init_343) := by
  intro lc st L σ o h hI
  unfold A_X12_init_343 at h
  split at h
  · obtain ⟨hq0, hA1⟩ := bif_s h
    obtain ⟨e0, hq1⟩ := beq_and hq0
    subst e0
    unfold f_X12_init_343 at hA1
    have hb := b_X12_init_351 (G := G) (l := l) (L0 := L0) (σ0 := σ0) hd
    revert hA1 hb
    generalize f_X12_init_351 = g
    intro hA1 hb
    exact exs ok_X12_init rt_X12_init (by omega) (hc_X12_init G l hd) hrAV (hkc hb hk0) 242 ((e_X12_init_343 g _ _ _).trans hA1) hI
  · cases h
set_option maxRecDepth 20000 in
theorem e_X12_init_335 (g : Lay → Sto → Nat → Option (Lay × Sto)) (L : Lay) (σ : Sto) (a0 : Nat) : ex tb_X12_init (spm [343]) (6, 0) (false, false) cl_X12_init (kc 343 (A_X12_init_343 g) k0) rkAV 242 335 [some (vR 12 (some a0))] [] L σ = (if (40 : Int32) = nI 40 then (al L σ 20 40 40).bind fun q19 => (putR q19.2.2 a0 43 (some q19.1)).bind fun σ20 => g q19.2.1 σ20 a0 else none) := rfl
set_option maxRecDepth 20000 in
theorem b_X12_init_335 {G : GT} {l : Launch} {d : Nat} {L0 : Lay} {σ0 : Sto} (hd : 1 ≤ d) : HF G l 12 "<init>" cX12_init 1 none d L0 σ0 (false, false) dcAV 335 (A_X12_init_335 f_X12_init_335) := by
  intro lc st L σ o h hI
  unfold A_X12_init_335 at h
  split at h
  · obtain ⟨hq0, hA1⟩ := bif_s h
    obtain ⟨e0, hq1⟩ := beq_and hq0
    subst e0
    unfold f_X12_init_335 at hA1
    have hb := b_X12_init_343 (G := G) (l := l) (L0 := L0) (σ0 := σ0) hd
    revert hA1 hb
    generalize f_X12_init_343 = g
    intro hA1 hb
    exact exs ok_X12_init rt_X12_init (by omega) (hc_X12_init G l hd) hrAV (hkc hb hk0) 242 ((e_X12_init_335 g _ _ _).trans hA1) hI
  · cases h
set_option maxRecDepth 20000 in
theorem e_X12_init_327 (g : Lay → Sto → Nat → Option (Lay × Sto)) (L : Lay) (σ : Sto) (a0 : Nat) : ex tb_X12_init (spm [335]) (6, 0) (false, false) cl_X12_init (kc 335 (A_X12_init_335 g) k0) rkAV 242 327 [some (vR 12 (some a0))] [] L σ = (if (80 : Int32) = nI 80 then (al L σ 21 80 80).bind fun q21 => (putR q21.2.2 a0 42 (some q21.1)).bind fun σ22 => g q21.2.1 σ22 a0 else none) := rfl
set_option maxRecDepth 20000 in
theorem b_X12_init_327 {G : GT} {l : Launch} {d : Nat} {L0 : Lay} {σ0 : Sto} (hd : 1 ≤ d) : HF G l 12 "<init>" cX12_init 1 none d L0 σ0 (false, false) dcAV 327 (A_X12_init_327 f_X12_init_327) := by
  intro lc st L σ o h hI
  unfold A_X12_init_327 at h
  split at h
  · obtain ⟨hq0, hA1⟩ := bif_s h
    obtain ⟨e0, hq1⟩ := beq_and hq0
    subst e0
    unfold f_X12_init_327 at hA1
    have hb := b_X12_init_335 (G := G) (l := l) (L0 := L0) (σ0 := σ0) hd
    revert hA1 hb
    generalize f_X12_init_335 = g
    intro hA1 hb
    exact exs ok_X12_init rt_X12_init (by omega) (hc_X12_init G l hd) hrAV (hkc hb hk0) 242 ((e_X12_init_327 g _ _ _).trans hA1) hI
  · cases h
set_option maxRecDepth 20000 in
theorem e_X12_init_312 (g : Lay → Sto → Nat → Option (Lay × Sto)) (L : Lay) (σ : Sto) (a0 : Nat) : ex tb_X12_init (spm [327]) (6, 0) (false, false) cl_X12_init (kc 327 (A_X12_init_327 g) k0) rkAV 242 312 [some (vR 12 (some a0))] [] L σ = (if (2 : Int32) = nI 2 then (al L σ 20 2 2).bind fun q23 => (wI q23.2.1 q23.2.2 q23.1 0 (-1)).bind fun σ24 => (wI q23.2.1 σ24 q23.1 1 (-1)).bind fun σ25 => (putR σ25 a0 41 (some q23.1)).bind fun σ26 => g q23.2.1 σ26 a0 else none) := rfl
set_option maxRecDepth 20000 in
theorem b_X12_init_312 {G : GT} {l : Launch} {d : Nat} {L0 : Lay} {σ0 : Sto} (hd : 1 ≤ d) : HF G l 12 "<init>" cX12_init 1 none d L0 σ0 (false, false) dcAV 312 (A_X12_init_312 f_X12_init_312) := by
  intro lc st L σ o h hI
  unfold A_X12_init_312 at h
  split at h
  · obtain ⟨hq0, hA1⟩ := bif_s h
    obtain ⟨e0, hq1⟩ := beq_and hq0
    subst e0
    unfold f_X12_init_312 at hA1
    have hb := b_X12_init_327 (G := G) (l := l) (L0 := L0) (σ0 := σ0) hd
    revert hA1 hb
    generalize f_X12_init_327 = g
    intro hA1 hb
    exact exs ok_X12_init rt_X12_init (by omega) (hc_X12_init G l hd) hrAV (hkc hb hk0) 242 ((e_X12_init_312 g _ _ _).trans hA1) hI
  · cases h
set_option maxRecDepth 20000 in
theorem e_X12_init_304 (g : Lay → Sto → Nat → Option (Lay × Sto)) (L : Lay) (σ : Sto) (a0 : Nat) : ex tb_X12_init (spm [312]) (6, 0) (false, false) cl_X12_init (kc 312 (A_X12_init_312 g) k0) rkAV 242 304 [some (vR 12 (some a0))] [] L σ = (if (30 : Int32) = nI 30 then (al L σ 20 30 30).bind fun q27 => (putR q27.2.2 a0 40 (some q27.1)).bind fun σ28 => g q27.2.1 σ28 a0 else none) := rfl
set_option maxRecDepth 20000 in
theorem b_X12_init_304 {G : GT} {l : Launch} {d : Nat} {L0 : Lay} {σ0 : Sto} (hd : 1 ≤ d) : HF G l 12 "<init>" cX12_init 1 none d L0 σ0 (false, false) dcAV 304 (A_X12_init_304 f_X12_init_304) := by
  intro lc st L σ o h hI
  unfold A_X12_init_304 at h
  split at h
  · obtain ⟨hq0, hA1⟩ := bif_s h
    obtain ⟨e0, hq1⟩ := beq_and hq0
    subst e0
    unfold f_X12_init_304 at hA1
    have hb := b_X12_init_312 (G := G) (l := l) (L0 := L0) (σ0 := σ0) hd
    revert hA1 hb
    generalize f_X12_init_312 = g
    intro hA1 hb
    exact exs ok_X12_init rt_X12_init (by omega) (hc_X12_init G l hd) hrAV (hkc hb hk0) 242 ((e_X12_init_304 g _ _ _).trans hA1) hI
  · cases h
set_option maxRecDepth 20000 in
theorem e_X12_init_271 (g : Lay → Sto → Nat → Option (Lay × Sto)) (L : Lay) (σ : Sto) (a0 : Nat) : ex tb_X12_init (spm [304]) (6, 0) (false, false) cl_X12_init (kc 304 (A_X12_init_304 g) k0) rkAV 242 271 [some (vR 12 (some a0))] [] L σ = (if (5 : Int32) = nI 5 then (al L σ 20 5 5).bind fun q29 => (wI q29.2.1 q29.2.2 q29.1 0 1000000).bind fun σ30 => (wI q29.2.1 σ30 q29.1 1 100).bind fun σ31 => (wI q29.2.1 σ31 q29.1 2 9999).bind fun σ32 => (wI q29.2.1 σ32 q29.1 3 12).bind fun σ33 => (wI q29.2.1 σ33 q29.1 4 20).bind fun σ34 => (putR σ34 a0 38 (some q29.1)).bind fun σ35 => g q29.2.1 σ35 a0 else none) := rfl
set_option maxRecDepth 20000 in
theorem b_X12_init_271 {G : GT} {l : Launch} {d : Nat} {L0 : Lay} {σ0 : Sto} (hd : 1 ≤ d) : HF G l 12 "<init>" cX12_init 1 none d L0 σ0 (false, false) dcAV 271 (A_X12_init_271 f_X12_init_271) := by
  intro lc st L σ o h hI
  unfold A_X12_init_271 at h
  split at h
  · obtain ⟨hq0, hA1⟩ := bif_s h
    obtain ⟨e0, hq1⟩ := beq_and hq0
    subst e0
    unfold f_X12_init_271 at hA1
    have hb := b_X12_init_304 (G := G) (l := l) (L0 := L0) (σ0 := σ0) hd
    revert hA1 hb
    generalize f_X12_init_304 = g
    intro hA1 hb
    exact exs ok_X12_init rt_X12_init (by omega) (hc_X12_init G l hd) hrAV (hkc hb hk0) 242 ((e_X12_init_271 g _ _ _).trans hA1) hI
  · cases h
set_option maxRecDepth 20000 in
theorem e_X12_init_244 (g : Lay → Sto → Nat → Option (Lay × Sto)) (L : Lay) (σ : Sto) (a0 : Nat) : ex tb_X12_init (spm [271]) (6, 0) (false, false) cl_X12_init (kc 271 (A_X12_init_271 g) k0) rkAV 242 244 [some (vR 12 (some a0))] [] L σ = (if (5 : Int32) = nI 5 then (al L σ 20 5 5).bind fun q36 => (wI q36.2.1 q36.2.2 q36.1 0 0).bind fun σ37 => (wI q36.2.1 σ37 q36.1 1 0).bind fun σ38 => (wI q36.2.1 σ38 q36.1 2 0).bind fun σ39 => (wI q36.2.1 σ39 q36.1 3 1).bind fun σ40 => (wI q36.2.1 σ40 q36.1 4 1).bind fun σ41 => (putR σ41 a0 37 (some q36.1)).bind fun σ42 => g q36.2.1 σ42 a0 else none) := rfl
set_option maxRecDepth 20000 in
theorem b_X12_init_244 {G : GT} {l : Launch} {d : Nat} {L0 : Lay} {σ0 : Sto} (hd : 1 ≤ d) : HF G l 12 "<init>" cX12_init 1 none d L0 σ0 (false, false) dcAV 244 (A_X12_init_244 f_X12_init_244) := by
  intro lc st L σ o h hI
  unfold A_X12_init_244 at h
  split at h
  · obtain ⟨hq0, hA1⟩ := bif_s h
    obtain ⟨e0, hq1⟩ := beq_and hq0
    subst e0
    unfold f_X12_init_244 at hA1
    have hb := b_X12_init_271 (G := G) (l := l) (L0 := L0) (σ0 := σ0) hd
    revert hA1 hb
    generalize f_X12_init_271 = g
    intro hA1 hb
    exact exs ok_X12_init rt_X12_init (by omega) (hc_X12_init G l hd) hrAV (hkc hb hk0) 242 ((e_X12_init_244 g _ _ _).trans hA1) hI
  · cases h
set_option maxRecDepth 20000 in
theorem e_X12_init_216 (g : Lay → Sto → Nat → Option (Lay × Sto)) (L : Lay) (σ : Sto) (a0 : Nat) : ex tb_X12_init (spm [244]) (6, 0) (false, false) cl_X12_init (kc 244 (A_X12_init_244 g) k0) rkAV 242 216 [some (vR 12 (some a0))] [] L σ = (if (5 : Int32) = nI 5 then (al L σ 20 5 5).bind fun q43 => (wI q43.2.1 q43.2.2 q43.1 0 0).bind fun σ44 => (wI q43.2.1 σ44 q43.1 1 50).bind fun σ45 => (wI q43.2.1 σ45 q43.1 2 0).bind fun σ46 => (wI q43.2.1 σ46 q43.1 3 3).bind fun σ47 => (wI q43.2.1 σ47 q43.1 4 3).bind fun σ48 => (putR σ48 a0 36 (some q43.1)).bind fun σ49 => g q43.2.1 σ49 a0 else none) := rfl
set_option maxRecDepth 20000 in
theorem b_X12_init_216 {G : GT} {l : Launch} {d : Nat} {L0 : Lay} {σ0 : Sto} (hd : 1 ≤ d) : HF G l 12 "<init>" cX12_init 1 none d L0 σ0 (false, false) dcAV 216 (A_X12_init_216 f_X12_init_216) := by
  intro lc st L σ o h hI
  unfold A_X12_init_216 at h
  split at h
  · obtain ⟨hq0, hA1⟩ := bif_s h
    obtain ⟨e0, hq1⟩ := beq_and hq0
    subst e0
    unfold f_X12_init_216 at hA1
    have hb := b_X12_init_244 (G := G) (l := l) (L0 := L0) (σ0 := σ0) hd
    revert hA1 hb
    generalize f_X12_init_244 = g
    intro hA1 hb
    exact exs ok_X12_init rt_X12_init (by omega) (hc_X12_init G l hd) hrAV (hkc hb hk0) 242 ((e_X12_init_216 g _ _ _).trans hA1) hI
  · cases h
set_option maxRecDepth 20000 in
theorem e_X12_init_208 (g : Lay → Sto → Nat → Option (Lay × Sto)) (L : Lay) (σ : Sto) (a0 : Nat) : ex tb_X12_init (spm [216]) (6, 0) (false, false) cl_X12_init (kc 216 (A_X12_init_216 g) k0) rkAV 242 208 [some (vR 12 (some a0))] [] L σ = (if (12 : Int32) = nI 12 then (al L σ 20 12 12).bind fun q50 => (putR q50.2.2 a0 35 (some q50.1)).bind fun σ51 => g q50.2.1 σ51 a0 else none) := rfl
set_option maxRecDepth 20000 in
theorem b_X12_init_208 {G : GT} {l : Launch} {d : Nat} {L0 : Lay} {σ0 : Sto} (hd : 1 ≤ d) : HF G l 12 "<init>" cX12_init 1 none d L0 σ0 (false, false) dcAV 208 (A_X12_init_208 f_X12_init_208) := by
  intro lc st L σ o h hI
  unfold A_X12_init_208 at h
  split at h
  · obtain ⟨hq0, hA1⟩ := bif_s h
    obtain ⟨e0, hq1⟩ := beq_and hq0
    subst e0
    unfold f_X12_init_208 at hA1
    have hb := b_X12_init_216 (G := G) (l := l) (L0 := L0) (σ0 := σ0) hd
    revert hA1 hb
    generalize f_X12_init_216 = g
    intro hA1 hb
    exact exs ok_X12_init rt_X12_init (by omega) (hc_X12_init G l hd) hrAV (hkc hb hk0) 242 ((e_X12_init_208 g _ _ _).trans hA1) hI
  · cases h
set_option maxRecDepth 20000 in
theorem e_X12_init_200 (g : Lay → Sto → Nat → Option (Lay × Sto)) (L : Lay) (σ : Sto) (a0 : Nat) : ex tb_X12_init (spm [208]) (6, 0) (false, false) cl_X12_init (kc 208 (A_X12_init_208 g) k0) rkAV 242 200 [some (vR 12 (some a0))] [] L σ = (if (12 : Int32) = nI 12 then (al L σ 20 12 12).bind fun q52 => (putR q52.2.2 a0 34 (some q52.1)).bind fun σ53 => g q52.2.1 σ53 a0 else none) := rfl
set_option maxRecDepth 20000 in
theorem b_X12_init_200 {G : GT} {l : Launch} {d : Nat} {L0 : Lay} {σ0 : Sto} (hd : 1 ≤ d) : HF G l 12 "<init>" cX12_init 1 none d L0 σ0 (false, false) dcAV 200 (A_X12_init_200 f_X12_init_200) := by
  intro lc st L σ o h hI
  unfold A_X12_init_200 at h
  split at h
  · obtain ⟨hq0, hA1⟩ := bif_s h
    obtain ⟨e0, hq1⟩ := beq_and hq0
    subst e0
    unfold f_X12_init_200 at hA1
    have hb := b_X12_init_208 (G := G) (l := l) (L0 := L0) (σ0 := σ0) hd
    revert hA1 hb
    generalize f_X12_init_208 = g
    intro hA1 hb
    exact exs ok_X12_init rt_X12_init (by omega) (hc_X12_init G l hd) hrAV (hkc hb hk0) 242 ((e_X12_init_200 g _ _ _).trans hA1) hI
  · cases h
set_option maxRecDepth 20000 in
theorem e_X12_init_192 (g : Lay → Sto → Nat → Option (Lay × Sto)) (L : Lay) (σ : Sto) (a0 : Nat) : ex tb_X12_init (spm [200]) (6, 0) (false, false) cl_X12_init (kc 200 (A_X12_init_200 g) k0) rkAV 242 192 [some (vR 12 (some a0))] [] L σ = (if (12 : Int32) = nI 12 then (al L σ 20 12 12).bind fun q54 => (putR q54.2.2 a0 33 (some q54.1)).bind fun σ55 => g q54.2.1 σ55 a0 else none) := rfl
set_option maxRecDepth 20000 in
theorem b_X12_init_192 {G : GT} {l : Launch} {d : Nat} {L0 : Lay} {σ0 : Sto} (hd : 1 ≤ d) : HF G l 12 "<init>" cX12_init 1 none d L0 σ0 (false, false) dcAV 192 (A_X12_init_192 f_X12_init_192) := by
  intro lc st L σ o h hI
  unfold A_X12_init_192 at h
  split at h
  · obtain ⟨hq0, hA1⟩ := bif_s h
    obtain ⟨e0, hq1⟩ := beq_and hq0
    subst e0
    unfold f_X12_init_192 at hA1
    have hb := b_X12_init_200 (G := G) (l := l) (L0 := L0) (σ0 := σ0) hd
    revert hA1 hb
    generalize f_X12_init_200 = g
    intro hA1 hb
    exact exs ok_X12_init rt_X12_init (by omega) (hc_X12_init G l hd) hrAV (hkc hb hk0) 242 ((e_X12_init_192 g _ _ _).trans hA1) hI
  · cases h
set_option maxRecDepth 20000 in
theorem e_X12_init_184 (g : Lay → Sto → Nat → Option (Lay × Sto)) (L : Lay) (σ : Sto) (a0 : Nat) : ex tb_X12_init (spm [192]) (6, 0) (false, false) cl_X12_init (kc 192 (A_X12_init_192 g) k0) rkAV 242 184 [some (vR 12 (some a0))] [] L σ = (if (12 : Int32) = nI 12 then (al L σ 20 12 12).bind fun q56 => (putR q56.2.2 a0 32 (some q56.1)).bind fun σ57 => g q56.2.1 σ57 a0 else none) := rfl
set_option maxRecDepth 20000 in
theorem b_X12_init_184 {G : GT} {l : Launch} {d : Nat} {L0 : Lay} {σ0 : Sto} (hd : 1 ≤ d) : HF G l 12 "<init>" cX12_init 1 none d L0 σ0 (false, false) dcAV 184 (A_X12_init_184 f_X12_init_184) := by
  intro lc st L σ o h hI
  unfold A_X12_init_184 at h
  split at h
  · obtain ⟨hq0, hA1⟩ := bif_s h
    obtain ⟨e0, hq1⟩ := beq_and hq0
    subst e0
    unfold f_X12_init_184 at hA1
    have hb := b_X12_init_192 (G := G) (l := l) (L0 := L0) (σ0 := σ0) hd
    revert hA1 hb
    generalize f_X12_init_192 = g
    intro hA1 hb
    exact exs ok_X12_init rt_X12_init (by omega) (hc_X12_init G l hd) hrAV (hkc hb hk0) 242 ((e_X12_init_184 g _ _ _).trans hA1) hI
  · cases h
