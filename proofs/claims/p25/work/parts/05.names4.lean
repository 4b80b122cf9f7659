theorem dL_load_123 : decode cL_load 123 = .ok (.iload_n 1, 1) := by decide +kernel
theorem dL_load_124 : decode cL_load 124 = .ok (.aload_n 2, 1) := by decide +kernel
theorem dL_load_125 : decode cL_load 125 = .ok (.aload_n 3, 1) := by decide +kernel
theorem dL_load_126 : decode cL_load 126 = .ok (.invokestatic 39, 3) := by decide +kernel
theorem dL_load_129 : decode cL_load 129 = .ok (.goto 5, 3) := by decide +kernel
theorem dL_load_132 : decode cL_load 132 = .ok (.iload 10, 2) := by decide +kernel
theorem dL_load_134 : decode cL_load 134 = .ok (.istore 10, 2) := by decide +kernel
theorem dL_load_136 : decode cL_load 136 = .ok (.iload 10, 2) := by decide +kernel
theorem dL_load_138 : decode cL_load 138 = .ok (.ifCond .ge 7, 3) := by decide +kernel
theorem dL_load_141 : decode cL_load 141 = .ok (.ldc2_w 46, 3) := by decide +kernel
theorem dL_load_144 : decode cL_load 144 = .ok (.lreturn, 1) := by decide +kernel
theorem dL_load_145 : decode cL_load 145 = .ok (.lload 6, 2) := by decide +kernel
theorem dL_load_147 : decode cL_load 147 = .ok (.bipush 8, 2) := by decide +kernel
theorem dL_load_149 : decode cL_load 149 = .ok (.lshl, 1) := by decide +kernel
theorem dL_load_150 : decode cL_load 150 = .ok (.iload 10, 2) := by decide +kernel
theorem dL_load_152 : decode cL_load 152 = .ok (.i2l, 1) := by decide +kernel
theorem dL_load_153 : decode cL_load 153 = .ok (.lor, 1) := by decide +kernel
theorem dL_load_154 : decode cL_load 154 = .ok (.lstore 6, 2) := by decide +kernel
theorem dL_load_156 : decode cL_load 156 = .ok (.iload 8, 2) := by decide +kernel
theorem dL_load_158 : decode cL_load 158 = .ok (.iload 10, 2) := by decide +kernel
theorem dL_load_160 : decode cL_load 160 = .ok (.iadd, 1) := by decide +kernel
theorem dL_load_161 : decode cL_load 161 = .ok (.istore 8, 2) := by decide +kernel
theorem dL_load_163 : decode cL_load 163 = .ok (.iinc 9 (-1), 3) := by decide +kernel
theorem dL_load_166 : decode cL_load 166 = .ok (.goto (-79), 3) := by decide +kernel
theorem dL_load_169 : decode cL_load 169 = .ok (.iload 5, 2) := by decide +kernel
theorem dL_load_171 : decode cL_load 171 = .ok (.iconst 2, 1) := by decide +kernel
theorem dL_load_172 : decode cL_load 172 = .ok (.if_icmp .ne 45, 3) := by decide +kernel
theorem dL_load_175 : decode cL_load 175 = .ok (.iload_n 0, 1) := by decide +kernel
theorem dL_load_176 : decode cL_load 176 = .ok (.iconst 0, 1) := by decide +kernel
theorem dL_load_177 : decode cL_load 177 = .ok (.iload 4, 2) := by decide +kernel
theorem dL_load_179 : decode cL_load 179 = .ok (.iload_n 1, 1) := by decide +kernel
theorem dL_load_180 : decode cL_load 180 = .ok (.aload_n 2, 1) := by decide +kernel
theorem dL_load_181 : decode cL_load 181 = .ok (.aload_n 3, 1) := by decide +kernel
theorem dL_load_182 : decode cL_load 182 = .ok (.invokestatic 39, 3) := by decide +kernel
theorem dL_load_185 : decode cL_load 185 = .ok (.iload 8, 2) := by decide +kernel
theorem dL_load_187 : decode cL_load 187 = .ok (.sipush 255, 3) := by decide +kernel
theorem dL_load_190 : decode cL_load 190 = .ok (.iand, 1) := by decide +kernel
theorem dL_load_191 : decode cL_load 191 = .ok (.if_icmp .eq 26, 3) := by decide +kernel
theorem dL_load_194 : decode cL_load 194 = .ok (.iload_n 0, 1) := by decide +kernel
theorem dL_load_195 : decode cL_load 195 = .ok (.iconst 1, 1) := by decide +kernel
theorem dL_load_196 : decode cL_load 196 = .ok (.iload 4, 2) := by decide +kernel
theorem dL_load_198 : decode cL_load 198 = .ok (.iload_n 1, 1) := by decide +kernel
theorem dL_load_199 : decode cL_load 199 = .ok (.aload_n 2, 1) := by decide +kernel
theorem dL_load_200 : decode cL_load 200 = .ok (.aload_n 3, 1) := by decide +kernel
theorem dL_load_201 : decode cL_load 201 = .ok (.invokestatic 39, 3) := by decide +kernel
theorem dL_load_204 : decode cL_load 204 = .ok (.iload 8, 2) := by decide +kernel
theorem dL_load_206 : decode cL_load 206 = .ok (.sipush 255, 3) := by decide +kernel
theorem dL_load_209 : decode cL_load 209 = .ok (.iand, 1) := by decide +kernel
theorem dL_load_210 : decode cL_load 210 = .ok (.if_icmp .eq 7, 3) := by decide +kernel
theorem dL_load_213 : decode cL_load 213 = .ok (.ldc2_w 46, 3) := by decide +kernel
theorem dL_load_216 : decode cL_load 216 = .ok (.lreturn, 1) := by decide +kernel
theorem dL_load_217 : decode cL_load 217 = .ok (.lload 6, 2) := by decide +kernel
theorem dL_load_219 : decode cL_load 219 = .ok (.iconst 2, 1) := by decide +kernel
theorem dL_load_220 : decode cL_load 220 = .ok (.lshl, 1) := by decide +kernel
theorem dL_load_221 : decode cL_load 221 = .ok (.iload 5, 2) := by decide +kernel
theorem dL_load_223 : decode cL_load 223 = .ok (.i2l, 1) := by decide +kernel
theorem dL_load_224 : decode cL_load 224 = .ok (.lor, 1) := by decide +kernel
theorem dL_load_225 : decode cL_load 225 = .ok (.lreturn, 1) := by decide +kernel
theorem dL_counter_0 : decode cL_counter 0 = .ok (.iload_n 0, 1) := by decide +kernel
theorem dL_counter_1 : decode cL_counter 1 = .ok (.iload_n 0, 1) := by decide +kernel
theorem dL_counter_2 : decode cL_counter 2 = .ok (.aload_n 1, 1) := by decide +kernel
theorem dL_counter_3 : decode cL_counter 3 = .ok (.iconst 2, 1) := by decide +kernel
theorem dL_counter_4 : decode cL_counter 4 = .ok (.iaload, 1) := by decide +kernel
theorem dL_counter_5 : decode cL_counter 5 = .ok (.imul, 1) := by decide +kernel
theorem dL_counter_6 : decode cL_counter 6 = .ok (.bipush 100, 2) := by decide +kernel
theorem dL_counter_8 : decode cL_counter 8 = .ok (.idiv, 1) := by decide +kernel
theorem dL_counter_9 : decode cL_counter 9 = .ok (.isub, 1) := by decide +kernel
theorem dL_counter_10 : decode cL_counter 10 = .ok (.sipush 1000, 3) := by decide +kernel
theorem dL_counter_13 : decode cL_counter 13 = .ok (.irem, 1) := by decide +kernel
theorem dL_counter_14 : decode cL_counter 14 = .ok (.ireturn, 1) := by decide +kernel
set_option maxRecDepth 20000 in
theorem ggL_far_L_counter : GoodIn wsL_far wsL_counter := goodIn_r _ [4] (by decide +kernel) (by decide +kernel)
set_option maxRecDepth 20000 in
theorem gL_far_L_counter : GoodIn wsL_far (va_wsS RL 48 yL_counter wsL_counter) := goodIn_app (goodIn_of _ (by decide +kernel)) ggL_far_L_counter
theorem dL_far_0 : decode cL_far 0 = .ok (.aload_n 3, 1) := by decide +kernel
theorem dL_far_1 : decode cL_far 1 = .ok (.bipush 8, 2) := by decide +kernel
theorem dL_far_3 : decode cL_far 3 = .ok (.iload_n 0, 1) := by decide +kernel
theorem dL_far_4 : decode cL_far 4 = .ok (.imul, 1) := by decide +kernel
theorem dL_far_5 : decode cL_far 5 = .ok (.iconst 3, 1) := by decide +kernel
theorem dL_far_6 : decode cL_far 6 = .ok (.iadd, 1) := by decide +kernel
theorem dL_far_7 : decode cL_far 7 = .ok (.iaload, 1) := by decide +kernel
theorem dL_far_8 : decode cL_far 8 = .ok (.aload_n 2, 1) := by decide +kernel
theorem dL_far_9 : decode cL_far 9 = .ok (.invokestatic 48, 3) := by decide +kernel
theorem dL_far_12 : decode cL_far 12 = .ok (.iload_n 1, 1) := by decide +kernel
theorem dL_far_13 : decode cL_far 13 = .ok (.isub, 1) := by decide +kernel
theorem dL_far_14 : decode cL_far 14 = .ok (.sipush 1000, 3) := by decide +kernel
theorem dL_far_17 : decode cL_far 17 = .ok (.iadd, 1) := by decide +kernel
theorem dL_far_18 : decode cL_far 18 = .ok (.sipush 1000, 3) := by decide +kernel
theorem dL_far_21 : decode cL_far 21 = .ok (.irem, 1) := by decide +kernel
theorem dL_far_22 : decode cL_far 22 = .ok (.istore 4, 2) := by decide +kernel
theorem dL_far_24 : decode cL_far 24 = .ok (.iload 4, 2) := by decide +kernel
theorem dL_far_26 : decode cL_far 26 = .ok (.sipush 1000, 3) := by decide +kernel
theorem dL_far_29 : decode cL_far 29 = .ok (.iload 4, 2) := by decide +kernel
theorem dL_far_31 : decode cL_far 31 = .ok (.isub, 1) := by decide +kernel
theorem dL_far_32 : decode cL_far 32 = .ok (.if_icmp .ge 8, 3) := by decide +kernel
theorem dL_far_35 : decode cL_far 35 = .ok (.iload 4, 2) := by decide +kernel
theorem dL_far_37 : decode cL_far 37 = .ok (.goto 9, 3) := by decide +kernel
theorem dL_far_40 : decode cL_far 40 = .ok (.sipush 1000, 3) := by decide +kernel
theorem dL_far_43 : decode cL_far 43 = .ok (.iload 4, 2) := by decide +kernel
theorem dL_far_45 : decode cL_far 45 = .ok (.isub, 1) := by decide +kernel
theorem dL_far_46 : decode cL_far 46 = .ok (.ireturn, 1) := by decide +kernel
set_option maxRecDepth 20000 in
theorem ggL_same_L_load : GoodIn wsL_same wsL_load := goodIn_r _ [7, 8, 9, 10, 6, 11, 12, 13, 14, 15, 16, 17, 18, 19, 20, 21, 22, 23, 24, 25, 26, 27, 28, 29, 30, 31, 32] (by decide +kernel) (by decide +kernel)
set_option maxRecDepth 20000 in
theorem gL_same_L_load : GoodIn wsL_same (va_wsS RL 51 yL_load wsL_load) := goodIn_app (goodIn_of _ (by decide +kernel)) ggL_same_L_load
set_option maxRecDepth 20000 in
theorem ggL_same_X6_of : GoodIn wsL_same wsX6_of := goodIn_r _ [37, 38, 39, 40, 41, 42, 43, 44, 45, 36, 46, 47, 48, 49, 50, 51, 52, 53, 54, 55, 56, 57, 58, 59, 60, 61, 62, 63, 64, 65, 66, 67, 68, 69, 70, 71, 72, 73, 74, 75, 76, 77, 78, 79, 80, 81, 82, 83, 84, 85, 86, 87, 88, 89, 90, 91, 92, 93, 94, 95, 96, 97, 98, 99, 100, 101, 102, 103, 104, 105, 106, 107, 108, 109, 110, 111, 112, 113, 114, 115, 116, 117, 118, 119, 120, 121, 122, 123, 124, 125, 126, 127, 128, 129, 130, 131, 132, 133, 134, 135, 136, 137, 138, 139, 140, 252, 253, 254, 255, 256, 257, 258, 259, 260, 261, 262, 263, 264, 265, 266, 267, 268, 269, 270, 271, 272, 273] (by decide +kernel) (by decide +kernel)
set_option maxRecDepth 20000 in
theorem gL_same_X6_of : GoodIn wsL_same (wsV RL 55 RX6 yX6_of wsX6_of) := goodIn_app (goodIn_of _ (by decide +kernel)) ggL_same_X6_of
set_option maxRecDepth 20000 in
theorem ggL_same_L_size : GoodIn wsL_same wsL_size := goodIn_r _ [17] (by decide +kernel) (by decide +kernel)
set_option maxRecDepth 20000 in
theorem gL_same_L_size : GoodIn wsL_same (va_wsS RL 24 yL_size wsL_size) := goodIn_app (goodIn_of _ (by decide +kernel)) ggL_same_L_size
set_option maxRecDepth 20000 in
theorem ggL_same_L_how : GoodIn wsL_same wsL_how := goodIn_r _ [11, 12, 13, 6, 14, 15, 16, 17, 18, 19, 20, 21, 22, 23, 24, 25, 26, 27, 28, 29, 30, 31, 32] (by decide +kernel) (by decide +kernel)
set_option maxRecDepth 20000 in
theorem gL_same_L_how : GoodIn wsL_same (va_wsS RL 43 yL_how wsL_how) := goodIn_app (goodIn_of _ (by decide +kernel)) ggL_same_L_how
set_option maxRecDepth 20000 in
theorem ggL_same_L_counter : GoodIn wsL_same wsL_counter := goodIn_r _ [143] (by decide +kernel) (by decide +kernel)
set_option maxRecDepth 20000 in
theorem gL_same_L_counter : GoodIn wsL_same (va_wsS RL 48 yL_counter wsL_counter) := goodIn_app (goodIn_of _ (by decide +kernel)) ggL_same_L_counter
set_option maxRecDepth 20000 in
theorem ggL_same_X6_load : GoodIn wsL_same wsX6_load := goodIn_r _ [147, 38, 148, 149, 55, 39, 40, 41, 42, 43, 118, 119, 120, 36, 121, 56, 57, 58, 59, 60, 61, 47, 48, 49, 50, 45, 46, 62, 63, 64, 65, 66, 67, 68, 69, 70, 71, 72, 73, 74, 75, 76, 77, 78, 79, 80, 81, 82, 83, 84, 85, 86, 87, 88, 89, 90, 91, 92, 93, 94, 95, 99, 100, 101, 102, 122, 123, 124, 103, 104, 105, 106, 107, 108, 109, 110, 111, 112, 113, 114, 115, 116, 117, 125, 126, 127, 128, 129, 130, 131, 132, 150, 151, 152, 153, 154, 155, 156, 252, 253, 254, 255, 256, 257, 258, 259, 260, 261, 262, 263, 264, 265, 266, 267, 268, 269, 270, 271, 272, 273] (by decide +kernel) (by decide +kernel)
set_option maxRecDepth 20000 in
theorem gL_same_X6_load : GoodIn wsL_same (wsV RL 63 RX6 yX6_load wsX6_load) := goodIn_app (goodIn_of _ (by decide +kernel)) ggL_same_X6_load
set_option maxRecDepth 20000 in
theorem ggL_same_X6_read : GoodIn wsL_same wsX6_read := goodIn_r _ [160, 38, 55, 39, 40, 41, 42, 43, 44, 45, 36, 46, 56, 57, 58, 59, 60, 61, 47, 48, 49, 50, 62, 63, 64, 65, 66, 67, 68, 69, 70, 71, 72, 73, 74, 75, 76, 77, 78, 79, 80, 81, 82, 83, 84, 85, 86, 87, 88, 89, 90, 91, 92, 93, 94, 95, 96, 97, 98, 99, 100, 101, 102, 107, 108, 109, 111, 112, 113, 252, 253, 254, 255, 256, 257, 258, 259, 260, 261, 262, 263, 264, 265, 266, 267, 270, 271, 272, 273, 268, 269] (by decide +kernel) (by decide +kernel)
set_option maxRecDepth 20000 in
theorem gL_same_X6_read : GoodIn wsL_same (wsV RL 68 RX6 yX6_read wsX6_read) := goodIn_app (goodIn_of _ (by decide +kernel)) ggL_same_X6_read
set_option maxRecDepth 20000 in
theorem ggL_same_L_lost : GoodIn wsL_same wsL_lost := goodIn_r _ [14, 15, 16, 6, 17, 18, 19, 20] (by decide +kernel) (by decide +kernel)
set_option maxRecDepth 20000 in
theorem gL_same_L_lost : GoodIn wsL_same (va_wsS RL 35 yL_lost wsL_lost) := goodIn_app (goodIn_of _ (by decide +kernel)) ggL_same_L_lost
set_option maxRecDepth 20000 in
theorem ggL_same_L_byteOf : GoodIn wsL_same wsL_byteOf := goodIn_r _ [23, 15, 16, 6, 17, 18, 19, 20, 24, 25, 26, 27, 28, 29, 30, 31, 32] (by decide +kernel) (by decide +kernel)
set_option maxRecDepth 20000 in
theorem gL_same_L_byteOf : GoodIn wsL_same (va_wsS RL 39 yL_byteOf wsL_byteOf) := goodIn_app (goodIn_of _ (by decide +kernel)) ggL_same_L_byteOf
set_option maxRecDepth 20000 in
theorem ggL_same_L_mem : GoodIn wsL_same wsL_mem := goodIn_r _ [20] (by decide +kernel) (by decide +kernel)
set_option maxRecDepth 20000 in
theorem gL_same_L_mem : GoodIn wsL_same (va_wsS RL 27 yL_mem wsL_mem) := goodIn_app (goodIn_of _ (by decide +kernel)) ggL_same_L_mem
set_option maxRecDepth 20000 in
theorem ggL_same_L_low : GoodIn wsL_same wsL_low := goodIn_r _ [163, 164] (by decide +kernel) (by decide +kernel)
set_option maxRecDepth 20000 in
theorem gL_same_L_low : GoodIn wsL_same (va_wsS RL 74 yL_low wsL_low) := goodIn_app (goodIn_of _ (by decide +kernel)) ggL_same_L_low
set_option maxRecDepth 20000 in
theorem ggL_same_L_nine : GoodIn wsL_same wsL_nine := goodIn_r _ [26, 27, 28, 6, 29, 30, 31, 32, 15, 16, 17, 18, 19, 20] (by decide +kernel) (by decide +kernel)
set_option maxRecDepth 20000 in
theorem gL_same_L_nine : GoodIn wsL_same (va_wsS RL 31 yL_nine wsL_nine) := goodIn_app (goodIn_of _ (by decide +kernel)) ggL_same_L_nine
set_option maxRecDepth 20000 in
theorem ggL_same_X6_cell : GoodIn wsL_same wsX6_cell := goodIn_r _ [168, 38, 169, 40, 170, 171, 172, 173, 174, 175, 50, 43, 45, 36, 46, 44, 176, 177, 178, 179, 180, 181, 182, 183, 47, 48, 49, 184, 185, 186, 187, 188, 92, 93, 94, 95, 189, 85, 86, 87, 88, 89, 137, 138, 139, 140, 99, 100, 101, 102, 252, 253, 254, 255, 256, 257, 258, 259, 260, 261, 262, 263, 264, 265, 266, 267] (by decide +kernel) (by decide +kernel)
set_option maxRecDepth 20000 in
theorem gL_same_X6_cell : GoodIn wsL_same (wsV RL 77 RX6 yX6_cell wsX6_cell) := goodIn_app (goodIn_of _ (by decide +kernel)) ggL_same_X6_cell
set_option maxRecDepth 20000 in
theorem ggL_same_L_far : GoodIn wsL_same wsL_far := goodIn_r _ [192, 141, 142, 6, 143] (by decide +kernel) (by decide +kernel)
set_option maxRecDepth 20000 in
theorem gL_same_L_far : GoodIn wsL_same (va_wsS RL 80 yL_far wsL_far) := goodIn_app (goodIn_of _ (by decide +kernel)) ggL_same_L_far
set_option maxRecDepth 20000 in
theorem ggL_same_X6_near : GoodIn wsL_same wsX6_near := goodIn_r _ [196, 38, 197, 40, 198, 199, 43, 200, 201, 202, 203, 204, 205, 73, 206, 207, 72, 74, 183, 47, 48, 49, 50, 45, 36, 46, 208, 137, 138, 139, 140, 99, 100, 101, 102, 252, 253, 254, 255, 256, 257, 258, 259, 260, 261, 262, 263, 264, 265, 266, 267] (by decide +kernel) (by decide +kernel)
set_option maxRecDepth 20000 in
theorem gL_same_X6_near : GoodIn wsL_same (wsV RL 84 RX6 yX6_near wsX6_near) := goodIn_app (goodIn_of _ (by decide +kernel)) ggL_same_X6_near
set_option maxRecDepth 20000 in
theorem ggL_same_X6_mostLeast : GoodIn wsL_same wsX6_mostLeast := goodIn_r _ [212, 38, 55, 39, 40, 41, 42, 43, 56, 57, 58, 59, 60, 61, 47, 48, 49, 50, 45, 36, 46, 62, 63, 64, 65, 66, 67, 68, 69, 70, 71, 72, 73, 74, 75, 76, 77, 78, 79, 80, 81, 82, 83, 84, 85, 86, 87, 88, 89, 90, 91, 92, 93, 94, 95, 122, 123, 124, 103, 104, 105, 106, 107, 108, 109, 110, 111, 112, 113, 114, 115, 116, 117, 125, 126, 127, 128, 129, 130, 131, 132, 252, 253, 254, 255, 256, 257, 258, 259, 260, 261, 262, 263, 264, 265, 266, 267, 268, 269, 270, 271, 272, 273] (by decide +kernel) (by decide +kernel)
set_option maxRecDepth 20000 in
theorem gL_same_X6_mostLeast : GoodIn wsL_same (wsV RL 87 RX6 yX6_mostLeast wsX6_mostLeast) := goodIn_app (goodIn_of _ (by decide +kernel)) ggL_same_X6_mostLeast
set_option maxRecDepth 20000 in
theorem ggL_same_X6_weak : GoodIn wsL_same wsX6_weak := goodIn_r _ [216, 38, 39, 40, 41, 42, 43, 51, 52, 53, 36, 54, 55, 56, 57, 58, 59, 60, 61, 47, 48, 49, 50, 45, 46, 62, 63, 64, 65, 66, 67, 68, 69, 70, 71, 72, 73, 74, 75, 76, 77, 78, 79, 80, 81, 82, 83, 84, 85, 86, 87, 88, 89, 90, 91, 92, 93, 94, 95, 96, 97, 98, 99, 100, 101, 102, 103, 104, 105, 106, 107, 108, 109, 110, 111, 112, 113, 114, 115, 116, 117, 252, 253, 254, 255, 256, 257, 258, 259, 260, 261, 262, 263, 264, 265, 266, 267, 268, 269, 270, 271, 272, 273] (by decide +kernel) (by decide +kernel)
set_option maxRecDepth 20000 in
theorem gL_same_X6_weak : GoodIn wsL_same (wsV RL 90 RX6 yX6_weak wsX6_weak) := goodIn_app (goodIn_of _ (by decide +kernel)) ggL_same_X6_weak
set_option maxRecDepth 20000 in
theorem ggL_same_X6_widest : GoodIn wsL_same wsX6_widest := goodIn_r _ [220, 38, 221, 222, 223, 224, 36, 225, 44, 45, 46, 226, 227, 228, 118, 119, 120, 121, 55, 56, 57, 58, 59, 60, 61, 47, 40, 48, 49, 50, 62, 63, 64, 65, 66, 67, 68, 69, 70, 71, 72, 73, 74, 75, 76, 77, 78, 79, 80, 81, 82, 83, 84, 85, 86, 87, 88, 89, 90, 91, 92, 93, 94, 95, 99, 100, 101, 102, 122, 123, 124, 103, 104, 105, 106, 107, 108, 109, 110, 111, 112, 113, 114, 115, 116, 117, 125, 126, 127, 128, 129, 130, 131, 132, 229, 230, 231, 232, 233, 252, 253, 254, 255, 256, 257, 258, 259, 260, 261, 262, 263, 264, 265, 266, 267, 268, 269, 270, 271, 272, 273] (by decide +kernel) (by decide +kernel)
set_option maxRecDepth 20000 in
theorem gL_same_X6_widest : GoodIn wsL_same (wsV RL 93 RX6 yX6_widest wsX6_widest) := goodIn_app (goodIn_of _ (by decide +kernel)) ggL_same_X6_widest
set_option maxRecDepth 20000 in
theorem ggL_same_X6_reached : GoodIn wsL_same wsX6_reached := goodIn_r _ [225, 38, 44, 45, 36, 46, 226, 227, 228, 118, 119, 120, 121, 55, 56, 57, 58, 59, 60, 61, 47, 40, 48, 49, 50, 62, 63, 64, 65, 66, 67, 68, 69, 70, 71, 72, 73, 74, 75, 76, 77, 78, 79, 80, 81, 82, 83, 84, 85, 86, 87, 88, 89, 90, 91, 92, 93, 94, 95, 99, 100, 101, 102, 122, 123, 124, 103, 104, 105, 106, 107, 108, 109, 110, 111, 112, 113, 114, 115, 116, 117, 125, 126, 127, 128, 129, 130, 131, 132, 252, 253, 254, 255, 256, 257, 258, 259, 260, 261, 262, 263, 264, 265, 266, 267, 268, 269, 270, 271, 272, 273] (by decide +kernel) (by decide +kernel)
set_option maxRecDepth 20000 in
theorem gL_same_X6_reached : GoodIn wsL_same (wsV RL 96 RX6 yX6_reached wsX6_reached) := goodIn_app (goodIn_of _ (by decide +kernel)) ggL_same_X6_reached
set_option maxRecDepth 20000 in
theorem ggL_same_X6_count : GoodIn wsL_same wsX6_count := goodIn_r _ [238, 38, 239, 240, 173, 40, 174, 175, 50, 43, 45, 36, 46, 241, 242, 243, 244, 118, 119, 120, 121, 55, 56, 57, 58, 59, 60, 61, 47, 48, 49, 62, 63, 64, 65, 66, 67, 68, 69, 70, 71, 72, 73, 74, 75, 76, 77, 78, 79, 80, 81, 82, 83, 84, 85, 86, 87, 88, 89, 90, 91, 92, 93, 94, 95, 99, 100, 101, 102, 122, 123, 124, 103, 104, 105, 106, 107, 108, 109, 110, 111, 112, 113, 114, 115, 116, 117, 125, 126, 127, 128, 129, 130, 131, 132, 245, 246, 247, 248, 172, 140, 249, 250, 251, 252, 253, 254, 255, 256, 257, 258, 259, 260, 261, 262, 263, 264, 265, 266, 267, 274, 275, 276, 277, 278, 279, 280, 281, 282, 283, 284, 285, 286, 287, 268, 269, 270, 271, 272, 273] (by decide +kernel) (by decide +kernel)
set_option maxRecDepth 20000 in
theorem gL_same_X6_count : GoodIn wsL_same (wsV RL 100 RX6 yX6_count wsX6_count) := goodIn_app (goodIn_of _ (by decide +kernel)) ggL_same_X6_count
theorem dL_same_0 : decode cL_same 0 = .ok (.iconst 0, 1) := by decide +kernel
theorem dL_same_1 : decode cL_same 1 = .ok (.istore 5, 2) := by decide +kernel
theorem dL_same_3 : decode cL_same 3 = .ok (.iconst 0, 1) := by decide +kernel
theorem dL_same_4 : decode cL_same 4 = .ok (.istore 6, 2) := by decide +kernel
theorem dL_same_6 : decode cL_same 6 = .ok (.iconst 0, 1) := by decide +kernel
theorem dL_same_7 : decode cL_same 7 = .ok (.istore 7, 2) := by decide +kernel
theorem dL_same_9 : decode cL_same 9 = .ok (.iconst 0, 1) := by decide +kernel
theorem dL_same_10 : decode cL_same 10 = .ok (.istore 8, 2) := by decide +kernel
theorem dL_same_12 : decode cL_same 12 = .ok (.iconst 0, 1) := by decide +kernel
theorem dL_same_13 : decode cL_same 13 = .ok (.istore 9, 2) := by decide +kernel
theorem dL_same_15 : decode cL_same 15 = .ok (.iconst 0, 1) := by decide +kernel
theorem dL_same_16 : decode cL_same 16 = .ok (.istore 10, 2) := by decide +kernel
theorem dL_same_18 : decode cL_same 18 = .ok (.iload 10, 2) := by decide +kernel
theorem dL_same_20 : decode cL_same 20 = .ok (.aload_n 2, 1) := by decide +kernel
theorem dL_same_21 : decode cL_same 21 = .ok (.iconst 3, 1) := by decide +kernel
theorem dL_same_22 : decode cL_same 22 = .ok (.iaload, 1) := by decide +kernel
theorem dL_same_23 : decode cL_same 23 = .ok (.if_icmp .ge 438, 3) := by decide +kernel
theorem dL_same_26 : decode cL_same 26 = .ok (.bipush 8, 2) := by decide +kernel
theorem dL_same_28 : decode cL_same 28 = .ok (.iload 10, 2) := by decide +kernel
theorem dL_same_30 : decode cL_same 30 = .ok (.imul, 1) := by decide +kernel
theorem dL_same_31 : decode cL_same 31 = .ok (.istore 11, 2) := by decide +kernel
theorem dL_same_33 : decode cL_same 33 = .ok (.iconst 0, 1) := by decide +kernel
theorem dL_same_34 : decode cL_same 34 = .ok (.istore 12, 2) := by decide +kernel
theorem dL_same_36 : decode cL_same 36 = .ok (.iload 10, 2) := by decide +kernel
theorem dL_same_38 : decode cL_same 38 = .ok (.aload_n 2, 1) := by decide +kernel
theorem dL_same_39 : decode cL_same 39 = .ok (.iconst 1, 1) := by decide +kernel
theorem dL_same_40 : decode cL_same 40 = .ok (.iaload, 1) := by decide +kernel
theorem dL_same_41 : decode cL_same 41 = .ok (.aload_n 3, 1) := by decide +kernel
theorem dL_same_42 : decode cL_same 42 = .ok (.aload 4, 2) := by decide +kernel
theorem dL_same_44 : decode cL_same 44 = .ok (.invokestatic 51, 3) := by decide +kernel
theorem dL_same_47 : decode cL_same 47 = .ok (.lstore 13, 2) := by decide +kernel
theorem dL_same_49 : decode cL_same 49 = .ok (.aload_n 3, 1) := by decide +kernel
theorem dL_same_50 : decode cL_same 50 = .ok (.iload 11, 2) := by decide +kernel
theorem dL_same_52 : decode cL_same 52 = .ok (.iconst 1, 1) := by decide +kernel
theorem dL_same_53 : decode cL_same 53 = .ok (.iadd, 1) := by decide +kernel
theorem dL_same_54 : decode cL_same 54 = .ok (.iaload, 1) := by decide +kernel
theorem dL_same_55 : decode cL_same 55 = .ok (.istore 15, 2) := by decide +kernel
theorem dL_same_57 : decode cL_same 57 = .ok (.iload 15, 2) := by decide +kernel
theorem dL_same_59 : decode cL_same 59 = .ok (.ifCond .lt 20, 3) := by decide +kernel
theorem dL_same_62 : decode cL_same 62 = .ok (.iinc 12 1, 3) := by decide +kernel
theorem dL_same_65 : decode cL_same 65 = .ok (.aload_n 3, 1) := by decide +kernel
theorem dL_same_66 : decode cL_same 66 = .ok (.bipush 8, 2) := by decide +kernel
theorem dL_same_68 : decode cL_same 68 = .ok (.iload 15, 2) := by decide +kernel
theorem dL_same_70 : decode cL_same 70 = .ok (.imul, 1) := by decide +kernel
theorem dL_same_71 : decode cL_same 71 = .ok (.iconst 1, 1) := by decide +kernel
theorem dL_same_72 : decode cL_same 72 = .ok (.iadd, 1) := by decide +kernel
theorem dL_same_73 : decode cL_same 73 = .ok (.iaload, 1) := by decide +kernel
theorem dL_same_74 : decode cL_same 74 = .ok (.istore 15, 2) := by decide +kernel
theorem dL_same_76 : decode cL_same 76 = .ok (.goto (-19), 3) := by decide +kernel
theorem dL_same_79 : decode cL_same 79 = .ok (.iconst 0, 1) := by decide +kernel
theorem dL_same_80 : decode cL_same 80 = .ok (.istore 15, 2) := by decide +kernel
theorem dL_same_82 : decode cL_same 82 = .ok (.iload 15, 2) := by decide +kernel
theorem dL_same_84 : decode cL_same 84 = .ok (.iconst 4, 1) := by decide +kernel
theorem dL_same_85 : decode cL_same 85 = .ok (.if_icmp .ge 29, 3) := by decide +kernel
theorem dL_same_88 : decode cL_same 88 = .ok (.aload_n 0, 1) := by decide +kernel
theorem dL_same_89 : decode cL_same 89 = .ok (.iload 10, 2) := by decide +kernel
theorem dL_same_91 : decode cL_same 91 = .ok (.iload 15, 2) := by decide +kernel
theorem dL_same_93 : decode cL_same 93 = .ok (.invokevirtual 55, 3) := by decide +kernel
theorem dL_same_96 : decode cL_same 96 = .ok (.aload_n 3, 1) := by decide +kernel
theorem dL_same_97 : decode cL_same 97 = .ok (.iload 11, 2) := by decide +kernel
theorem dL_same_99 : decode cL_same 99 = .ok (.iload 15, 2) := by decide +kernel
theorem dL_same_101 : decode cL_same 101 = .ok (.iadd, 1) := by decide +kernel
theorem dL_same_102 : decode cL_same 102 = .ok (.iaload, 1) := by decide +kernel
theorem dL_same_103 : decode cL_same 103 = .ok (.if_icmp .eq 5, 3) := by decide +kernel
theorem dL_same_106 : decode cL_same 106 = .ok (.iconst 0, 1) := by decide +kernel
theorem dL_same_107 : decode cL_same 107 = .ok (.ireturn, 1) := by decide +kernel
theorem dL_same_108 : decode cL_same 108 = .ok (.iinc 15 1, 3) := by decide +kernel
theorem dL_same_111 : decode cL_same 111 = .ok (.goto (-29), 3) := by decide +kernel
theorem dL_same_114 : decode cL_same 114 = .ok (.aload_n 0, 1) := by decide +kernel
theorem dL_same_115 : decode cL_same 115 = .ok (.iload 10, 2) := by decide +kernel
theorem dL_same_117 : decode cL_same 117 = .ok (.iconst 4, 1) := by decide +kernel
theorem dL_same_118 : decode cL_same 118 = .ok (.invokevirtual 55, 3) := by decide +kernel
theorem dL_same_121 : decode cL_same 121 = .ok (.iconst 2, 1) := by decide +kernel
theorem dL_same_122 : decode cL_same 122 = .ok (.iload 10, 2) := by decide +kernel
theorem dL_same_124 : decode cL_same 124 = .ok (.aload_n 3, 1) := by decide +kernel
theorem dL_same_125 : decode cL_same 125 = .ok (.invokestatic 24, 3) := by decide +kernel
theorem dL_same_128 : decode cL_same 128 = .ok (.imul, 1) := by decide +kernel
theorem dL_same_129 : decode cL_same 129 = .ok (.iconst 2, 1) := by decide +kernel
theorem dL_same_130 : decode cL_same 130 = .ok (.iadd, 1) := by decide +kernel
theorem dL_same_131 : decode cL_same 131 = .ok (.if_icmp .ne 139, 3) := by decide +kernel
theorem dL_same_134 : decode cL_same 134 = .ok (.aload_n 0, 1) := by decide +kernel
theorem dL_same_135 : decode cL_same 135 = .ok (.iload 10, 2) := by decide +kernel
theorem dL_same_137 : decode cL_same 137 = .ok (.iconst 5, 1) := by decide +kernel
theorem dL_same_138 : decode cL_same 138 = .ok (.invokevirtual 55, 3) := by decide +kernel
theorem dL_same_141 : decode cL_same 141 = .ok (.iload 10, 2) := by decide +kernel
theorem dL_same_143 : decode cL_same 143 = .ok (.iconst 0, 1) := by decide +kernel
theorem dL_same_144 : decode cL_same 144 = .ok (.aload_n 2, 1) := by decide +kernel
theorem dL_same_145 : decode cL_same 145 = .ok (.iconst 1, 1) := by decide +kernel
theorem dL_same_146 : decode cL_same 146 = .ok (.iaload, 1) := by decide +kernel
theorem dL_same_147 : decode cL_same 147 = .ok (.aload_n 3, 1) := by decide +kernel
theorem dL_same_148 : decode cL_same 148 = .ok (.aload 4, 2) := by decide +kernel
theorem dL_same_150 : decode cL_same 150 = .ok (.invokestatic 43, 3) := by decide +kernel
theorem dL_same_153 : decode cL_same 153 = .ok (.if_icmp .ne 117, 3) := by decide +kernel
theorem dL_same_156 : decode cL_same 156 = .ok (.aload_n 0, 1) := by decide +kernel
theorem dL_same_157 : decode cL_same 157 = .ok (.iload 10, 2) := by decide +kernel
theorem dL_same_159 : decode cL_same 159 = .ok (.bipush 6, 2) := by decide +kernel
theorem dL_same_161 : decode cL_same 161 = .ok (.invokevirtual 55, 3) := by decide +kernel
theorem dL_same_164 : decode cL_same 164 = .ok (.iload 10, 2) := by decide +kernel
theorem dL_same_166 : decode cL_same 166 = .ok (.iconst 1, 1) := by decide +kernel
theorem dL_same_167 : decode cL_same 167 = .ok (.aload_n 2, 1) := by decide +kernel
theorem dL_same_168 : decode cL_same 168 = .ok (.iconst 1, 1) := by decide +kernel
theorem dL_same_169 : decode cL_same 169 = .ok (.iaload, 1) := by decide +kernel
theorem dL_same_170 : decode cL_same 170 = .ok (.aload_n 3, 1) := by decide +kernel
theorem dL_same_171 : decode cL_same 171 = .ok (.aload 4, 2) := by decide +kernel
theorem dL_same_173 : decode cL_same 173 = .ok (.invokestatic 43, 3) := by decide +kernel
theorem dL_same_176 : decode cL_same 176 = .ok (.if_icmp .ne 94, 3) := by decide +kernel
theorem dL_same_179 : decode cL_same 179 = .ok (.aload_n 0, 1) := by decide +kernel
theorem dL_same_180 : decode cL_same 180 = .ok (.iload 10, 2) := by decide +kernel
theorem dL_same_182 : decode cL_same 182 = .ok (.bipush 7, 2) := by decide +kernel
theorem dL_same_184 : decode cL_same 184 = .ok (.invokevirtual 55, 3) := by decide +kernel
theorem dL_same_187 : decode cL_same 187 = .ok (.lload 13, 2) := by decide +kernel
theorem dL_same_189 : decode cL_same 189 = .ok (.lconst 0, 1) := by decide +kernel
theorem dL_same_190 : decode cL_same 190 = .ok (.lcmp, 1) := by decide +kernel
theorem dL_same_191 : decode cL_same 191 = .ok (.ifCond .ge 8, 3) := by decide +kernel
theorem dL_same_194 : decode cL_same 194 = .ok (.bipush (-6), 2) := by decide +kernel
theorem dL_same_196 : decode cL_same 196 = .ok (.goto 10, 3) := by decide +kernel
theorem dL_same_199 : decode cL_same 199 = .ok (.lload 13, 2) := by decide +kernel
theorem dL_same_201 : decode cL_same 201 = .ok (.ldc2_w 61, 3) := by decide +kernel
theorem dL_same_204 : decode cL_same 204 = .ok (.land, 1) := by decide +kernel
theorem dL_same_205 : decode cL_same 205 = .ok (.l2i, 1) := by decide +kernel
theorem dL_same_206 : decode cL_same 206 = .ok (.if_icmp .ne 64, 3) := by decide +kernel
theorem dL_same_209 : decode cL_same 209 = .ok (.aload_n 0, 1) := by decide +kernel
theorem dL_same_210 : decode cL_same 210 = .ok (.iload 10, 2) := by decide +kernel
theorem dL_same_212 : decode cL_same 212 = .ok (.bipush 8, 2) := by decide +kernel
theorem dL_same_214 : decode cL_same 214 = .ok (.invokevirtual 55, 3) := by decide +kernel
theorem dL_same_217 : decode cL_same 217 = .ok (.iload 12, 2) := by decide +kernel
theorem dL_same_219 : decode cL_same 219 = .ok (.if_icmp .ne 51, 3) := by decide +kernel
theorem dL_same_222 : decode cL_same 222 = .ok (.aload_n 0, 1) := by decide +kernel
theorem dL_same_223 : decode cL_same 223 = .ok (.iload 10, 2) := by decide +kernel
theorem dL_same_225 : decode cL_same 225 = .ok (.bipush 9, 2) := by decide +kernel
theorem dL_same_227 : decode cL_same 227 = .ok (.invokevirtual 55, 3) := by decide +kernel
theorem dL_same_230 : decode cL_same 230 = .ok (.aload_n 3, 1) := by decide +kernel
theorem dL_same_231 : decode cL_same 231 = .ok (.iload 11, 2) := by decide +kernel
theorem dL_same_233 : decode cL_same 233 = .ok (.iconst 3, 1) := by decide +kernel
theorem dL_same_234 : decode cL_same 234 = .ok (.iadd, 1) := by decide +kernel
theorem dL_same_235 : decode cL_same 235 = .ok (.iaload, 1) := by decide +kernel
theorem dL_same_236 : decode cL_same 236 = .ok (.aload_n 2, 1) := by decide +kernel
theorem dL_same_237 : decode cL_same 237 = .ok (.invokestatic 48, 3) := by decide +kernel
theorem dL_same_240 : decode cL_same 240 = .ok (.if_icmp .ne 30, 3) := by decide +kernel
theorem dL_same_243 : decode cL_same 243 = .ok (.aload_n 0, 1) := by decide +kernel
theorem dL_same_244 : decode cL_same 244 = .ok (.iload 10, 2) := by decide +kernel
theorem dL_same_246 : decode cL_same 246 = .ok (.invokevirtual 63, 3) := by decide +kernel
theorem dL_same_249 : decode cL_same 249 = .ok (.lload 13, 2) := by decide +kernel
theorem dL_same_251 : decode cL_same 251 = .ok (.lconst 0, 1) := by decide +kernel
theorem dL_same_252 : decode cL_same 252 = .ok (.lcmp, 1) := by decide +kernel
theorem dL_same_253 : decode cL_same 253 = .ok (.ifCond .ge 9, 3) := by decide +kernel
theorem dL_same_256 : decode cL_same 256 = .ok (.ldc2_w 66, 3) := by decide +kernel
theorem dL_same_259 : decode cL_same 259 = .ok (.goto 7, 3) := by decide +kernel
theorem dL_same_262 : decode cL_same 262 = .ok (.lload 13, 2) := by decide +kernel
theorem dL_same_264 : decode cL_same 264 = .ok (.iconst 2, 1) := by decide +kernel
theorem dL_same_265 : decode cL_same 265 = .ok (.lshr, 1) := by decide +kernel
theorem dL_same_266 : decode cL_same 266 = .ok (.lcmp, 1) := by decide +kernel
theorem dL_same_267 : decode cL_same 267 = .ok (.ifCond .eq 5, 3) := by decide +kernel
theorem dL_same_270 : decode cL_same 270 = .ok (.iconst 0, 1) := by decide +kernel
theorem dL_same_271 : decode cL_same 271 = .ok (.ireturn, 1) := by decide +kernel
theorem dL_same_272 : decode cL_same 272 = .ok (.iconst 0, 1) := by decide +kernel
theorem dL_same_273 : decode cL_same 273 = .ok (.istore 15, 2) := by decide +kernel
theorem dL_same_275 : decode cL_same 275 = .ok (.iload 15, 2) := by decide +kernel
theorem dL_same_277 : decode cL_same 277 = .ok (.iconst 2, 1) := by decide +kernel
theorem dL_same_278 : decode cL_same 278 = .ok (.if_icmp .ge 80, 3) := by decide +kernel
theorem dL_same_281 : decode cL_same 281 = .ok (.iconst 0, 1) := by decide +kernel
theorem dL_same_282 : decode cL_same 282 = .ok (.istore 16, 2) := by decide +kernel
theorem dL_same_284 : decode cL_same 284 = .ok (.iload 16, 2) := by decide +kernel
theorem dL_same_286 : decode cL_same 286 = .ok (.aload_n 3, 1) := by decide +kernel
theorem dL_same_287 : decode cL_same 287 = .ok (.iload 11, 2) := by decide +kernel
theorem dL_same_289 : decode cL_same 289 = .ok (.iconst 2, 1) := by decide +kernel
theorem dL_same_290 : decode cL_same 290 = .ok (.iadd, 1) := by decide +kernel
theorem dL_same_291 : decode cL_same 291 = .ok (.iaload, 1) := by decide +kernel
theorem dL_same_292 : decode cL_same 292 = .ok (.if_icmp .gt 60, 3) := by decide +kernel
theorem dL_same_295 : decode cL_same 295 = .ok (.aload_n 0, 1) := by decide +kernel
theorem dL_same_296 : decode cL_same 296 = .ok (.iload 10, 2) := by decide +kernel
theorem dL_same_298 : decode cL_same 298 = .ok (.iload 15, 2) := by decide +kernel
theorem dL_same_300 : decode cL_same 300 = .ok (.iload 16, 2) := by decide +kernel
theorem dL_same_302 : decode cL_same 302 = .ok (.invokevirtual 68, 3) := by decide +kernel
theorem dL_same_305 : decode cL_same 305 = .ok (.iload 10, 2) := by decide +kernel
theorem dL_same_307 : decode cL_same 307 = .ok (.iload 15, 2) := by decide +kernel
theorem dL_same_309 : decode cL_same 309 = .ok (.aload_n 2, 1) := by decide +kernel
theorem dL_same_310 : decode cL_same 310 = .ok (.iconst 1, 1) := by decide +kernel
theorem dL_same_311 : decode cL_same 311 = .ok (.iaload, 1) := by decide +kernel
theorem dL_same_312 : decode cL_same 312 = .ok (.aload_n 3, 1) := by decide +kernel
theorem dL_same_313 : decode cL_same 313 = .ok (.aload 4, 2) := by decide +kernel
theorem dL_same_315 : decode cL_same 315 = .ok (.invokestatic 35, 3) := by decide +kernel
theorem dL_same_318 : decode cL_same 318 = .ok (.ifCond .eq 8, 3) := by decide +kernel
theorem dL_same_321 : decode cL_same 321 = .ok (.bipush (-6), 2) := by decide +kernel
theorem dL_same_323 : decode cL_same 323 = .ok (.goto 18, 3) := by decide +kernel
theorem dL_same_326 : decode cL_same 326 = .ok (.iload 10, 2) := by decide +kernel
theorem dL_same_328 : decode cL_same 328 = .ok (.iload 15, 2) := by decide +kernel
theorem dL_same_330 : decode cL_same 330 = .ok (.iload 16, 2) := by decide +kernel
theorem dL_same_332 : decode cL_same 332 = .ok (.aload_n 2, 1) := by decide +kernel
theorem dL_same_333 : decode cL_same 333 = .ok (.iconst 1, 1) := by decide +kernel
theorem dL_same_334 : decode cL_same 334 = .ok (.iaload, 1) := by decide +kernel
theorem dL_same_335 : decode cL_same 335 = .ok (.aload_n 3, 1) := by decide +kernel
theorem dL_same_336 : decode cL_same 336 = .ok (.aload 4, 2) := by decide +kernel
theorem dL_same_338 : decode cL_same 338 = .ok (.invokestatic 39, 3) := by decide +kernel
theorem dL_same_341 : decode cL_same 341 = .ok (.if_icmp .eq 5, 3) := by decide +kernel
theorem dL_same_344 : decode cL_same 344 = .ok (.iconst 0, 1) := by decide +kernel
theorem dL_same_345 : decode cL_same 345 = .ok (.ireturn, 1) := by decide +kernel
theorem dL_same_346 : decode cL_same 346 = .ok (.iinc 16 1, 3) := by decide +kernel
theorem dL_same_349 : decode cL_same 349 = .ok (.goto (-65), 3) := by decide +kernel
theorem dL_same_352 : decode cL_same 352 = .ok (.iinc 15 1, 3) := by decide +kernel
theorem dL_same_355 : decode cL_same 355 = .ok (.goto (-80), 3) := by decide +kernel
theorem dL_same_358 : decode cL_same 358 = .ok (.iload 5, 2) := by decide +kernel
theorem dL_same_360 : decode cL_same 360 = .ok (.lload 13, 2) := by decide +kernel
theorem dL_same_362 : decode cL_same 362 = .ok (.lconst 0, 1) := by decide +kernel
theorem dL_same_363 : decode cL_same 363 = .ok (.lcmp, 1) := by decide +kernel
theorem dL_same_364 : decode cL_same 364 = .ok (.ifCond .ge 7, 3) := by decide +kernel
theorem dL_same_367 : decode cL_same 367 = .ok (.iconst 0, 1) := by decide +kernel
theorem dL_same_368 : decode cL_same 368 = .ok (.goto 7, 3) := by decide +kernel
theorem dL_same_371 : decode cL_same 371 = .ok (.iconst 1, 1) := by decide +kernel
theorem dL_same_372 : decode cL_same 372 = .ok (.iload 10, 2) := by decide +kernel
theorem dL_same_374 : decode cL_same 374 = .ok (.ishl, 1) := by decide +kernel
theorem dL_same_375 : decode cL_same 375 = .ok (.ior, 1) := by decide +kernel
theorem dL_same_376 : decode cL_same 376 = .ok (.istore 5, 2) := by decide +kernel
theorem dL_same_378 : decode cL_same 378 = .ok (.iload 6, 2) := by decide +kernel
theorem dL_same_380 : decode cL_same 380 = .ok (.lload 13, 2) := by decide +kernel
theorem dL_same_382 : decode cL_same 382 = .ok (.lconst 0, 1) := by decide +kernel
theorem dL_same_383 : decode cL_same 383 = .ok (.lcmp, 1) := by decide +kernel
theorem dL_same_384 : decode cL_same 384 = .ok (.ifCond .lt 23, 3) := by decide +kernel
theorem dL_same_387 : decode cL_same 387 = .ok (.lload 13, 2) := by decide +kernel
theorem dL_same_389 : decode cL_same 389 = .ok (.ldc2_w 61, 3) := by decide +kernel
theorem dL_same_392 : decode cL_same 392 = .ok (.land, 1) := by decide +kernel
theorem dL_same_393 : decode cL_same 393 = .ok (.ldc2_w 72, 3) := by decide +kernel
theorem dL_same_396 : decode cL_same 396 = .ok (.lcmp, 1) := by decide +kernel
theorem dL_same_397 : decode cL_same 397 = .ok (.ifCond .ne 10, 3) := by decide +kernel
theorem dL_same_400 : decode cL_same 400 = .ok (.iconst 1, 1) := by decide +kernel
theorem dL_same_401 : decode cL_same 401 = .ok (.iload 10, 2) := by decide +kernel
theorem dL_same_403 : decode cL_same 403 = .ok (.ishl, 1) := by decide +kernel
theorem dL_same_404 : decode cL_same 404 = .ok (.goto 4, 3) := by decide +kernel
theorem dL_same_407 : decode cL_same 407 = .ok (.iconst 0, 1) := by decide +kernel
theorem dL_same_408 : decode cL_same 408 = .ok (.ior, 1) := by decide +kernel
theorem dL_same_409 : decode cL_same 409 = .ok (.istore 6, 2) := by decide +kernel
theorem dL_same_411 : decode cL_same 411 = .ok (.iload 7, 2) := by decide +kernel
theorem dL_same_413 : decode cL_same 413 = .ok (.lload 13, 2) := by decide +kernel
theorem dL_same_415 : decode cL_same 415 = .ok (.lconst 0, 1) := by decide +kernel
theorem dL_same_416 : decode cL_same 416 = .ok (.lcmp, 1) := by decide +kernel
theorem dL_same_417 : decode cL_same 417 = .ok (.ifCond .lt 34, 3) := by decide +kernel
theorem dL_same_420 : decode cL_same 420 = .ok (.aload_n 3, 1) := by decide +kernel
theorem dL_same_421 : decode cL_same 421 = .ok (.iload 11, 2) := by decide +kernel
theorem dL_same_423 : decode cL_same 423 = .ok (.iconst 1, 1) := by decide +kernel
theorem dL_same_424 : decode cL_same 424 = .ok (.iadd, 1) := by decide +kernel
theorem dL_same_425 : decode cL_same 425 = .ok (.iaload, 1) := by decide +kernel
theorem dL_same_426 : decode cL_same 426 = .ok (.ifCond .lt 18, 3) := by decide +kernel
theorem dL_same_429 : decode cL_same 429 = .ok (.iload 7, 2) := by decide +kernel
theorem dL_same_431 : decode cL_same 431 = .ok (.aload_n 3, 1) := by decide +kernel
theorem dL_same_432 : decode cL_same 432 = .ok (.iload 11, 2) := by decide +kernel
theorem dL_same_434 : decode cL_same 434 = .ok (.iconst 1, 1) := by decide +kernel
theorem dL_same_435 : decode cL_same 435 = .ok (.iadd, 1) := by decide +kernel
theorem dL_same_436 : decode cL_same 436 = .ok (.iaload, 1) := by decide +kernel
theorem dL_same_437 : decode cL_same 437 = .ok (.ishr, 1) := by decide +kernel
theorem dL_same_438 : decode cL_same 438 = .ok (.iconst 1, 1) := by decide +kernel
theorem dL_same_439 : decode cL_same 439 = .ok (.iand, 1) := by decide +kernel
theorem dL_same_440 : decode cL_same 440 = .ok (.iconst 1, 1) := by decide +kernel
theorem dL_same_441 : decode cL_same 441 = .ok (.if_icmp .ne 10, 3) := by decide +kernel
theorem dL_same_444 : decode cL_same 444 = .ok (.iconst 1, 1) := by decide +kernel
theorem dL_same_445 : decode cL_same 445 = .ok (.iload 10, 2) := by decide +kernel
theorem dL_same_447 : decode cL_same 447 = .ok (.ishl, 1) := by decide +kernel
theorem dL_same_448 : decode cL_same 448 = .ok (.goto 4, 3) := by decide +kernel
theorem dL_same_451 : decode cL_same 451 = .ok (.iconst 0, 1) := by decide +kernel
theorem dL_same_452 : decode cL_same 452 = .ok (.ior, 1) := by decide +kernel
theorem dL_same_453 : decode cL_same 453 = .ok (.istore 7, 2) := by decide +kernel
theorem dL_same_455 : decode cL_same 455 = .ok (.iinc 10 1, 3) := by decide +kernel
theorem dL_same_458 : decode cL_same 458 = .ok (.goto (-440), 3) := by decide +kernel
theorem dL_same_461 : decode cL_same 461 = .ok (.iconst 0, 1) := by decide +kernel
theorem dL_same_462 : decode cL_same 462 = .ok (.istore 10, 2) := by decide +kernel
theorem dL_same_464 : decode cL_same 464 = .ok (.iload 10, 2) := by decide +kernel
theorem dL_same_466 : decode cL_same 466 = .ok (.aload_n 2, 1) := by decide +kernel
theorem dL_same_467 : decode cL_same 467 = .ok (.iconst 4, 1) := by decide +kernel
theorem dL_same_468 : decode cL_same 468 = .ok (.iaload, 1) := by decide +kernel
theorem dL_same_469 : decode cL_same 469 = .ok (.if_icmp .ge 52, 3) := by decide +kernel
theorem dL_same_472 : decode cL_same 472 = .ok (.iload 8, 2) := by decide +kernel
theorem dL_same_474 : decode cL_same 474 = .ok (.iload 10, 2) := by decide +kernel
theorem dL_same_476 : decode cL_same 476 = .ok (.aload 4, 2) := by decide +kernel
theorem dL_same_478 : decode cL_same 478 = .ok (.invokestatic 27, 3) := by decide +kernel
theorem dL_same_481 : decode cL_same 481 = .ok (.sipush 128, 3) := by decide +kernel
theorem dL_same_484 : decode cL_same 484 = .ok (.irem, 1) := by decide +kernel
theorem dL_same_485 : decode cL_same 485 = .ok (.aload_n 2, 1) := by decide +kernel
theorem dL_same_486 : decode cL_same 486 = .ok (.iconst 1, 1) := by decide +kernel
theorem dL_same_487 : decode cL_same 487 = .ok (.iaload, 1) := by decide +kernel
theorem dL_same_488 : decode cL_same 488 = .ok (.if_icmp .ge 7, 3) := by decide +kernel
theorem dL_same_491 : decode cL_same 491 = .ok (.iconst 1, 1) := by decide +kernel
theorem dL_same_492 : decode cL_same 492 = .ok (.goto 4, 3) := by decide +kernel
theorem dL_same_495 : decode cL_same 495 = .ok (.iconst 0, 1) := by decide +kernel
theorem dL_same_496 : decode cL_same 496 = .ok (.iadd, 1) := by decide +kernel
theorem dL_same_497 : decode cL_same 497 = .ok (.istore 8, 2) := by decide +kernel
theorem dL_same_499 : decode cL_same 499 = .ok (.iload 9, 2) := by decide +kernel
theorem dL_same_501 : decode cL_same 501 = .ok (.iload 10, 2) := by decide +kernel
theorem dL_same_503 : decode cL_same 503 = .ok (.aload 4, 2) := by decide +kernel
theorem dL_same_505 : decode cL_same 505 = .ok (.invokestatic 27, 3) := by decide +kernel
theorem dL_same_508 : decode cL_same 508 = .ok (.sipush 128, 3) := by decide +kernel
theorem dL_same_511 : decode cL_same 511 = .ok (.idiv, 1) := by decide +kernel
theorem dL_same_512 : decode cL_same 512 = .ok (.iadd, 1) := by decide +kernel
theorem dL_same_513 : decode cL_same 513 = .ok (.istore 9, 2) := by decide +kernel
theorem dL_same_515 : decode cL_same 515 = .ok (.iinc 10 1, 3) := by decide +kernel
theorem dL_same_518 : decode cL_same 518 = .ok (.goto (-54), 3) := by decide +kernel
theorem dL_same_521 : decode cL_same 521 = .ok (.aload_n 2, 1) := by decide +kernel
theorem dL_same_522 : decode cL_same 522 = .ok (.iconst 3, 1) := by decide +kernel
theorem dL_same_523 : decode cL_same 523 = .ok (.iaload, 1) := by decide +kernel
theorem dL_same_524 : decode cL_same 524 = .ok (.ifCond .le 465, 3) := by decide +kernel
theorem dL_same_527 : decode cL_same 527 = .ok (.iload_n 1, 1) := by decide +kernel
theorem dL_same_528 : decode cL_same 528 = .ok (.aload_n 2, 1) := by decide +kernel
theorem dL_same_529 : decode cL_same 529 = .ok (.iconst 4, 1) := by decide +kernel
theorem dL_same_530 : decode cL_same 530 = .ok (.iaload, 1) := by decide +kernel
theorem dL_same_531 : decode cL_same 531 = .ok (.invokestatic 74, 3) := by decide +kernel
theorem dL_same_534 : decode cL_same 534 = .ok (.istore 10, 2) := by decide +kernel
theorem dL_same_536 : decode cL_same 536 = .ok (.iconst 0, 1) := by decide +kernel
theorem dL_same_537 : decode cL_same 537 = .ok (.istore 11, 2) := by decide +kernel
theorem dL_same_539 : decode cL_same 539 = .ok (.iload 11, 2) := by decide +kernel
theorem dL_same_541 : decode cL_same 541 = .ok (.iconst 1, 1) := by decide +kernel
theorem dL_same_542 : decode cL_same 542 = .ok (.iadd, 1) := by decide +kernel
theorem dL_same_543 : decode cL_same 543 = .ok (.aload_n 2, 1) := by decide +kernel
theorem dL_same_544 : decode cL_same 544 = .ok (.iconst 3, 1) := by decide +kernel
theorem dL_same_545 : decode cL_same 545 = .ok (.iaload, 1) := by decide +kernel
theorem dL_same_546 : decode cL_same 546 = .ok (.if_icmp .ge 24, 3) := by decide +kernel
theorem dL_same_549 : decode cL_same 549 = .ok (.aload_n 3, 1) := by decide +kernel
theorem dL_same_550 : decode cL_same 550 = .ok (.bipush 8, 2) := by decide +kernel
theorem dL_same_552 : decode cL_same 552 = .ok (.iload 11, 2) := by decide +kernel
theorem dL_same_554 : decode cL_same 554 = .ok (.imul, 1) := by decide +kernel
theorem dL_same_555 : decode cL_same 555 = .ok (.bipush 11, 2) := by decide +kernel
theorem dL_same_557 : decode cL_same 557 = .ok (.iadd, 1) := by decide +kernel
theorem dL_same_558 : decode cL_same 558 = .ok (.iaload, 1) := by decide +kernel
theorem dL_same_559 : decode cL_same 559 = .ok (.iload 10, 2) := by decide +kernel
theorem dL_same_561 : decode cL_same 561 = .ok (.if_icmp .gt 9, 3) := by decide +kernel
theorem dL_same_564 : decode cL_same 564 = .ok (.iinc 11 1, 3) := by decide +kernel
theorem dL_same_567 : decode cL_same 567 = .ok (.goto (-28), 3) := by decide +kernel
theorem dL_same_570 : decode cL_same 570 = .ok (.iload 10, 2) := by decide +kernel
theorem dL_same_572 : decode cL_same 572 = .ok (.aload_n 3, 1) := by decide +kernel
theorem dL_same_573 : decode cL_same 573 = .ok (.bipush 8, 2) := by decide +kernel
theorem dL_same_575 : decode cL_same 575 = .ok (.iload 11, 2) := by decide +kernel
theorem dL_same_577 : decode cL_same 577 = .ok (.imul, 1) := by decide +kernel
theorem dL_same_578 : decode cL_same 578 = .ok (.iconst 3, 1) := by decide +kernel
theorem dL_same_579 : decode cL_same 579 = .ok (.iadd, 1) := by decide +kernel
theorem dL_same_580 : decode cL_same 580 = .ok (.iaload, 1) := by decide +kernel
theorem dL_same_581 : decode cL_same 581 = .ok (.isub, 1) := by decide +kernel
theorem dL_same_582 : decode cL_same 582 = .ok (.istore 12, 2) := by decide +kernel
theorem dL_same_584 : decode cL_same 584 = .ok (.iload 12, 2) := by decide +kernel
theorem dL_same_586 : decode cL_same 586 = .ok (.iload 11, 2) := by decide +kernel
theorem dL_same_588 : decode cL_same 588 = .ok (.aload_n 3, 1) := by decide +kernel
theorem dL_same_589 : decode cL_same 589 = .ok (.invokestatic 24, 3) := by decide +kernel
theorem dL_same_592 : decode cL_same 592 = .ok (.idiv, 1) := by decide +kernel
theorem dL_same_593 : decode cL_same 593 = .ok (.istore 13, 2) := by decide +kernel
theorem dL_same_595 : decode cL_same 595 = .ok (.iload 12, 2) := by decide +kernel
theorem dL_same_597 : decode cL_same 597 = .ok (.iload 11, 2) := by decide +kernel
theorem dL_same_599 : decode cL_same 599 = .ok (.aload_n 3, 1) := by decide +kernel
theorem dL_same_600 : decode cL_same 600 = .ok (.invokestatic 24, 3) := by decide +kernel
theorem dL_same_603 : decode cL_same 603 = .ok (.irem, 1) := by decide +kernel
theorem dL_same_604 : decode cL_same 604 = .ok (.iconst 4, 1) := by decide +kernel
theorem dL_same_605 : decode cL_same 605 = .ok (.isub, 1) := by decide +kernel
theorem dL_same_606 : decode cL_same 606 = .ok (.istore 14, 2) := by decide +kernel
theorem dL_same_608 : decode cL_same 608 = .ok (.iload 13, 2) := by decide +kernel
theorem dL_same_610 : decode cL_same 610 = .ok (.iconst 2, 1) := by decide +kernel
theorem dL_same_611 : decode cL_same 611 = .ok (.if_icmp .eq 8, 3) := by decide +kernel
theorem dL_same_614 : decode cL_same 614 = .ok (.iload 14, 2) := by decide +kernel
theorem dL_same_616 : decode cL_same 616 = .ok (.ifCond .ge 7, 3) := by decide +kernel
theorem dL_same_619 : decode cL_same 619 = .ok (.iconst 0, 1) := by decide +kernel
theorem dL_same_620 : decode cL_same 620 = .ok (.goto 26, 3) := by decide +kernel
theorem dL_same_623 : decode cL_same 623 = .ok (.iload 11, 2) := by decide +kernel
theorem dL_same_625 : decode cL_same 625 = .ok (.iload 13, 2) := by decide +kernel
theorem dL_same_627 : decode cL_same 627 = .ok (.iload 14, 2) := by decide +kernel
theorem dL_same_629 : decode cL_same 629 = .ok (.bipush 9, 2) := by decide +kernel
theorem dL_same_631 : decode cL_same 631 = .ok (.idiv, 1) := by decide +kernel
theorem dL_same_632 : decode cL_same 632 = .ok (.aload_n 3, 1) := by decide +kernel
theorem dL_same_633 : decode cL_same 633 = .ok (.aload 4, 2) := by decide +kernel
theorem dL_same_635 : decode cL_same 635 = .ok (.invokestatic 31, 3) := by decide +kernel
theorem dL_same_638 : decode cL_same 638 = .ok (.iload 14, 2) := by decide +kernel
theorem dL_same_640 : decode cL_same 640 = .ok (.bipush 9, 2) := by decide +kernel
theorem dL_same_642 : decode cL_same 642 = .ok (.irem, 1) := by decide +kernel
theorem dL_same_643 : decode cL_same 643 = .ok (.ishr, 1) := by decide +kernel
theorem dL_same_644 : decode cL_same 644 = .ok (.iconst 1, 1) := by decide +kernel
theorem dL_same_645 : decode cL_same 645 = .ok (.iand, 1) := by decide +kernel
theorem dL_same_646 : decode cL_same 646 = .ok (.istore 15, 2) := by decide +kernel
theorem dL_same_648 : decode cL_same 648 = .ok (.aload_n 0, 1) := by decide +kernel
theorem dL_same_649 : decode cL_same 649 = .ok (.iload 10, 2) := by decide +kernel
theorem dL_same_651 : decode cL_same 651 = .ok (.iconst 0, 1) := by decide +kernel
theorem dL_same_652 : decode cL_same 652 = .ok (.invokevirtual 77, 3) := by decide +kernel
theorem dL_same_655 : decode cL_same 655 = .ok (.iload 10, 2) := by decide +kernel
theorem dL_same_657 : decode cL_same 657 = .ok (.aload 4, 2) := by decide +kernel
theorem dL_same_659 : decode cL_same 659 = .ok (.invokestatic 27, 3) := by decide +kernel
theorem dL_same_662 : decode cL_same 662 = .ok (.sipush 128, 3) := by decide +kernel
theorem dL_same_665 : decode cL_same 665 = .ok (.irem, 1) := by decide +kernel
theorem dL_same_666 : decode cL_same 666 = .ok (.if_icmp .ne 76, 3) := by decide +kernel
theorem dL_same_669 : decode cL_same 669 = .ok (.aload_n 0, 1) := by decide +kernel
theorem dL_same_670 : decode cL_same 670 = .ok (.iload 10, 2) := by decide +kernel
theorem dL_same_672 : decode cL_same 672 = .ok (.iconst 1, 1) := by decide +kernel
theorem dL_same_673 : decode cL_same 673 = .ok (.invokevirtual 77, 3) := by decide +kernel
theorem dL_same_676 : decode cL_same 676 = .ok (.iload 10, 2) := by decide +kernel
theorem dL_same_678 : decode cL_same 678 = .ok (.aload 4, 2) := by decide +kernel
theorem dL_same_680 : decode cL_same 680 = .ok (.invokestatic 27, 3) := by decide +kernel
theorem dL_same_683 : decode cL_same 683 = .ok (.sipush 128, 3) := by decide +kernel
theorem dL_same_686 : decode cL_same 686 = .ok (.idiv, 1) := by decide +kernel
theorem dL_same_687 : decode cL_same 687 = .ok (.if_icmp .ne 55, 3) := by decide +kernel
theorem dL_same_690 : decode cL_same 690 = .ok (.aload_n 0, 1) := by decide +kernel
theorem dL_same_691 : decode cL_same 691 = .ok (.iload 10, 2) := by decide +kernel
theorem dL_same_693 : decode cL_same 693 = .ok (.iconst 2, 1) := by decide +kernel
theorem dL_same_694 : decode cL_same 694 = .ok (.invokevirtual 77, 3) := by decide +kernel
theorem dL_same_697 : decode cL_same 697 = .ok (.iload 15, 2) := by decide +kernel
theorem dL_same_699 : decode cL_same 699 = .ok (.if_icmp .ne 43, 3) := by decide +kernel
theorem dL_same_702 : decode cL_same 702 = .ok (.aload_n 0, 1) := by decide +kernel
theorem dL_same_703 : decode cL_same 703 = .ok (.iload 10, 2) := by decide +kernel
theorem dL_same_705 : decode cL_same 705 = .ok (.iconst 3, 1) := by decide +kernel
theorem dL_same_706 : decode cL_same 706 = .ok (.invokevirtual 77, 3) := by decide +kernel
theorem dL_same_709 : decode cL_same 709 = .ok (.iload 11, 2) := by decide +kernel
theorem dL_same_711 : decode cL_same 711 = .ok (.if_icmp .ne 31, 3) := by decide +kernel
theorem dL_same_714 : decode cL_same 714 = .ok (.aload_n 0, 1) := by decide +kernel
theorem dL_same_715 : decode cL_same 715 = .ok (.iload 10, 2) := by decide +kernel
theorem dL_same_717 : decode cL_same 717 = .ok (.iconst 4, 1) := by decide +kernel
theorem dL_same_718 : decode cL_same 718 = .ok (.invokevirtual 77, 3) := by decide +kernel
theorem dL_same_721 : decode cL_same 721 = .ok (.iload 13, 2) := by decide +kernel
theorem dL_same_723 : decode cL_same 723 = .ok (.if_icmp .ne 19, 3) := by decide +kernel
theorem dL_same_726 : decode cL_same 726 = .ok (.aload_n 0, 1) := by decide +kernel
theorem dL_same_727 : decode cL_same 727 = .ok (.iload 10, 2) := by decide +kernel
theorem dL_same_729 : decode cL_same 729 = .ok (.iconst 5, 1) := by decide +kernel
theorem dL_same_730 : decode cL_same 730 = .ok (.invokevirtual 77, 3) := by decide +kernel
theorem dL_same_733 : decode cL_same 733 = .ok (.iload 10, 2) := by decide +kernel
theorem dL_same_735 : decode cL_same 735 = .ok (.aload_n 2, 1) := by decide +kernel
theorem dL_same_736 : decode cL_same 736 = .ok (.invokestatic 48, 3) := by decide +kernel
theorem dL_same_739 : decode cL_same 739 = .ok (.if_icmp .eq 5, 3) := by decide +kernel
theorem dL_same_742 : decode cL_same 742 = .ok (.iconst 0, 1) := by decide +kernel
theorem dL_same_743 : decode cL_same 743 = .ok (.ireturn, 1) := by decide +kernel
theorem dL_same_744 : decode cL_same 744 = .ok (.iload_n 1, 1) := by decide +kernel
theorem dL_same_745 : decode cL_same 745 = .ok (.bipush 6, 2) := by decide +kernel
theorem dL_same_747 : decode cL_same 747 = .ok (.ishr, 1) := by decide +kernel
theorem dL_same_748 : decode cL_same 748 = .ok (.sipush 1000, 3) := by decide +kernel
theorem dL_same_751 : decode cL_same 751 = .ok (.invokestatic 74, 3) := by decide +kernel
theorem dL_same_754 : decode cL_same 754 = .ok (.istore 16, 2) := by decide +kernel
theorem dL_same_756 : decode cL_same 756 = .ok (.iconst 0, 1) := by decide +kernel
theorem dL_same_757 : decode cL_same 757 = .ok (.istore 17, 2) := by decide +kernel
theorem dL_same_759 : decode cL_same 759 = .ok (.iconst 0, 1) := by decide +kernel
theorem dL_same_760 : decode cL_same 760 = .ok (.istore 18, 2) := by decide +kernel
theorem dL_same_762 : decode cL_same 762 = .ok (.iload 18, 2) := by decide +kernel
theorem dL_same_764 : decode cL_same 764 = .ok (.aload_n 2, 1) := by decide +kernel
theorem dL_same_765 : decode cL_same 765 = .ok (.iconst 3, 1) := by decide +kernel
theorem dL_same_766 : decode cL_same 766 = .ok (.iaload, 1) := by decide +kernel
theorem dL_same_767 : decode cL_same 767 = .ok (.if_icmp .ge 94, 3) := by decide +kernel
theorem dL_same_770 : decode cL_same 770 = .ok (.iconst (-1), 1) := by decide +kernel
theorem dL_same_771 : decode cL_same 771 = .ok (.istore 19, 2) := by decide +kernel
theorem dL_same_773 : decode cL_same 773 = .ok (.aload_n 2, 1) := by decide +kernel
theorem dL_same_774 : decode cL_same 774 = .ok (.iconst 3, 1) := by decide +kernel
theorem dL_same_775 : decode cL_same 775 = .ok (.iaload, 1) := by decide +kernel
theorem dL_same_776 : decode cL_same 776 = .ok (.iconst 1, 1) := by decide +kernel
theorem dL_same_777 : decode cL_same 777 = .ok (.isub, 1) := by decide +kernel
theorem dL_same_778 : decode cL_same 778 = .ok (.istore 20, 2) := by decide +kernel
theorem dL_same_780 : decode cL_same 780 = .ok (.iload 20, 2) := by decide +kernel
theorem dL_same_782 : decode cL_same 782 = .ok (.ifCond .lt 49, 3) := by decide +kernel
theorem dL_same_785 : decode cL_same 785 = .ok (.iload 17, 2) := by decide +kernel
theorem dL_same_787 : decode cL_same 787 = .ok (.iload 20, 2) := by decide +kernel
theorem dL_same_789 : decode cL_same 789 = .ok (.ishr, 1) := by decide +kernel
theorem dL_same_790 : decode cL_same 790 = .ok (.iconst 1, 1) := by decide +kernel
theorem dL_same_791 : decode cL_same 791 = .ok (.iand, 1) := by decide +kernel
theorem dL_same_792 : decode cL_same 792 = .ok (.ifCond .ne 33, 3) := by decide +kernel
theorem dL_same_795 : decode cL_same 795 = .ok (.iload 19, 2) := by decide +kernel
theorem dL_same_797 : decode cL_same 797 = .ok (.ifCond .lt 24, 3) := by decide +kernel
theorem dL_same_800 : decode cL_same 800 = .ok (.iload 20, 2) := by decide +kernel
theorem dL_same_802 : decode cL_same 802 = .ok (.iload 16, 2) := by decide +kernel
theorem dL_same_804 : decode cL_same 804 = .ok (.aload_n 2, 1) := by decide +kernel
theorem dL_same_805 : decode cL_same 805 = .ok (.aload_n 3, 1) := by decide +kernel
theorem dL_same_806 : decode cL_same 806 = .ok (.invokestatic 80, 3) := by decide +kernel
theorem dL_same_809 : decode cL_same 809 = .ok (.iload 19, 2) := by decide +kernel
theorem dL_same_811 : decode cL_same 811 = .ok (.iload 16, 2) := by decide +kernel
theorem dL_same_813 : decode cL_same 813 = .ok (.aload_n 2, 1) := by decide +kernel
theorem dL_same_814 : decode cL_same 814 = .ok (.aload_n 3, 1) := by decide +kernel
theorem dL_same_815 : decode cL_same 815 = .ok (.invokestatic 80, 3) := by decide +kernel
theorem dL_same_818 : decode cL_same 818 = .ok (.if_icmp .gt 7, 3) := by decide +kernel
theorem dL_same_821 : decode cL_same 821 = .ok (.iload 20, 2) := by decide +kernel
theorem dL_same_823 : decode cL_same 823 = .ok (.istore 19, 2) := by decide +kernel
theorem dL_same_825 : decode cL_same 825 = .ok (.iinc 20 (-1), 3) := by decide +kernel
theorem dL_same_828 : decode cL_same 828 = .ok (.goto (-48), 3) := by decide +kernel
theorem dL_same_831 : decode cL_same 831 = .ok (.iload 17, 2) := by decide +kernel
theorem dL_same_833 : decode cL_same 833 = .ok (.iconst 1, 1) := by decide +kernel
theorem dL_same_834 : decode cL_same 834 = .ok (.iload 19, 2) := by decide +kernel
theorem dL_same_836 : decode cL_same 836 = .ok (.ishl, 1) := by decide +kernel
theorem dL_same_837 : decode cL_same 837 = .ok (.ior, 1) := by decide +kernel
theorem dL_same_838 : decode cL_same 838 = .ok (.istore 17, 2) := by decide +kernel
theorem dL_same_840 : decode cL_same 840 = .ok (.aload_n 0, 1) := by decide +kernel
theorem dL_same_841 : decode cL_same 841 = .ok (.iload 16, 2) := by decide +kernel
theorem dL_same_843 : decode cL_same 843 = .ok (.iload 18, 2) := by decide +kernel
theorem dL_same_845 : decode cL_same 845 = .ok (.invokevirtual 84, 3) := by decide +kernel
theorem dL_same_848 : decode cL_same 848 = .ok (.iload 19, 2) := by decide +kernel
theorem dL_same_850 : decode cL_same 850 = .ok (.if_icmp .eq 5, 3) := by decide +kernel
theorem dL_same_853 : decode cL_same 853 = .ok (.iconst 0, 1) := by decide +kernel
theorem dL_same_854 : decode cL_same 854 = .ok (.ireturn, 1) := by decide +kernel
theorem dL_same_855 : decode cL_same 855 = .ok (.iinc 18 1, 3) := by decide +kernel
theorem dL_same_858 : decode cL_same 858 = .ok (.goto (-96), 3) := by decide +kernel
theorem dL_same_861 : decode cL_same 861 = .ok (.iload_n 1, 1) := by decide +kernel
theorem dL_same_862 : decode cL_same 862 = .ok (.iconst 3, 1) := by decide +kernel
theorem dL_same_863 : decode cL_same 863 = .ok (.ishr, 1) := by decide +kernel
theorem dL_same_864 : decode cL_same 864 = .ok (.aload_n 2, 1) := by decide +kernel
theorem dL_same_865 : decode cL_same 865 = .ok (.iconst 3, 1) := by decide +kernel
theorem dL_same_866 : decode cL_same 866 = .ok (.iaload, 1) := by decide +kernel
theorem dL_same_867 : decode cL_same 867 = .ok (.invokestatic 74, 3) := by decide +kernel
theorem dL_same_870 : decode cL_same 870 = .ok (.istore 18, 2) := by decide +kernel
theorem dL_same_872 : decode cL_same 872 = .ok (.bipush 99, 2) := by decide +kernel
theorem dL_same_874 : decode cL_same 874 = .ok (.istore 19, 2) := by decide +kernel
theorem dL_same_876 : decode cL_same 876 = .ok (.iload 19, 2) := by decide +kernel
theorem dL_same_878 : decode cL_same 878 = .ok (.ifCond .lt 24, 3) := by decide +kernel
theorem dL_same_881 : decode cL_same 881 = .ok (.iload 18, 2) := by decide +kernel
theorem dL_same_883 : decode cL_same 883 = .ok (.iload 19, 2) := by decide +kernel
theorem dL_same_885 : decode cL_same 885 = .ok (.aload_n 3, 1) := by decide +kernel
theorem dL_same_886 : decode cL_same 886 = .ok (.aload 4, 2) := by decide +kernel
theorem dL_same_888 : decode cL_same 888 = .ok (.invokestatic 51, 3) := by decide +kernel
theorem dL_same_891 : decode cL_same 891 = .ok (.lconst 0, 1) := by decide +kernel
theorem dL_same_892 : decode cL_same 892 = .ok (.lcmp, 1) := by decide +kernel
theorem dL_same_893 : decode cL_same 893 = .ok (.ifCond .ge 9, 3) := by decide +kernel
theorem dL_same_896 : decode cL_same 896 = .ok (.iinc 19 (-1), 3) := by decide +kernel
theorem dL_same_899 : decode cL_same 899 = .ok (.goto (-23), 3) := by decide +kernel
theorem dL_same_902 : decode cL_same 902 = .ok (.aload_n 0, 1) := by decide +kernel
theorem dL_same_903 : decode cL_same 903 = .ok (.iload 18, 2) := by decide +kernel
theorem dL_same_905 : decode cL_same 905 = .ok (.invokevirtual 87, 3) := by decide +kernel
theorem dL_same_908 : decode cL_same 908 = .ok (.iload 19, 2) := by decide +kernel
theorem dL_same_910 : decode cL_same 910 = .ok (.ifCond .ge 8, 3) := by decide +kernel
theorem dL_same_913 : decode cL_same 913 = .ok (.bipush (-6), 2) := by decide +kernel
theorem dL_same_915 : decode cL_same 915 = .ok (.goto 5, 3) := by decide +kernel
theorem dL_same_918 : decode cL_same 918 = .ok (.iload 19, 2) := by decide +kernel
theorem dL_same_920 : decode cL_same 920 = .ok (.if_icmp .eq 5, 3) := by decide +kernel
theorem dL_same_923 : decode cL_same 923 = .ok (.iconst 0, 1) := by decide +kernel
theorem dL_same_924 : decode cL_same 924 = .ok (.ireturn, 1) := by decide +kernel
theorem dL_same_925 : decode cL_same 925 = .ok (.iconst 0, 1) := by decide +kernel
theorem dL_same_926 : decode cL_same 926 = .ok (.istore 20, 2) := by decide +kernel
theorem dL_same_928 : decode cL_same 928 = .ok (.iload 20, 2) := by decide +kernel
theorem dL_same_930 : decode cL_same 930 = .ok (.iconst 2, 1) := by decide +kernel
theorem dL_same_931 : decode cL_same 931 = .ok (.if_icmp .ge 58, 3) := by decide +kernel
theorem dL_same_934 : decode cL_same 934 = .ok (.aload_n 0, 1) := by decide +kernel
theorem dL_same_935 : decode cL_same 935 = .ok (.iload 18, 2) := by decide +kernel
theorem dL_same_937 : decode cL_same 937 = .ok (.iload 20, 2) := by decide +kernel
theorem dL_same_939 : decode cL_same 939 = .ok (.invokevirtual 90, 3) := by decide +kernel
theorem dL_same_942 : decode cL_same 942 = .ok (.iload 18, 2) := by decide +kernel
theorem dL_same_944 : decode cL_same 944 = .ok (.iload 20, 2) := by decide +kernel
theorem dL_same_946 : decode cL_same 946 = .ok (.aload_n 2, 1) := by decide +kernel
theorem dL_same_947 : decode cL_same 947 = .ok (.iconst 1, 1) := by decide +kernel
theorem dL_same_948 : decode cL_same 948 = .ok (.iaload, 1) := by decide +kernel
theorem dL_same_949 : decode cL_same 949 = .ok (.aload_n 3, 1) := by decide +kernel
theorem dL_same_950 : decode cL_same 950 = .ok (.aload 4, 2) := by decide +kernel
theorem dL_same_952 : decode cL_same 952 = .ok (.invokestatic 43, 3) := by decide +kernel
theorem dL_same_955 : decode cL_same 955 = .ok (.ifCond .ne 21, 3) := by decide +kernel
theorem dL_same_958 : decode cL_same 958 = .ok (.bipush 9, 2) := by decide +kernel
theorem dL_same_960 : decode cL_same 960 = .ok (.aload_n 3, 1) := by decide +kernel
theorem dL_same_961 : decode cL_same 961 = .ok (.bipush 8, 2) := by decide +kernel
theorem dL_same_963 : decode cL_same 963 = .ok (.iload 18, 2) := by decide +kernel
theorem dL_same_965 : decode cL_same 965 = .ok (.imul, 1) := by decide +kernel
theorem dL_same_966 : decode cL_same 966 = .ok (.iconst 2, 1) := by decide +kernel
theorem dL_same_967 : decode cL_same 967 = .ok (.iadd, 1) := by decide +kernel
theorem dL_same_968 : decode cL_same 968 = .ok (.iaload, 1) := by decide +kernel
theorem dL_same_969 : decode cL_same 969 = .ok (.imul, 1) := by decide +kernel
theorem dL_same_970 : decode cL_same 970 = .ok (.bipush 9, 2) := by decide +kernel
theorem dL_same_972 : decode cL_same 972 = .ok (.iadd, 1) := by decide +kernel
theorem dL_same_973 : decode cL_same 973 = .ok (.goto 5, 3) := by decide +kernel
theorem dL_same_976 : decode cL_same 976 = .ok (.bipush (-5), 2) := by decide +kernel
theorem dL_same_978 : decode cL_same 978 = .ok (.if_icmp .eq 5, 3) := by decide +kernel
theorem dL_same_981 : decode cL_same 981 = .ok (.iconst 0, 1) := by decide +kernel
theorem dL_same_982 : decode cL_same 982 = .ok (.ireturn, 1) := by decide +kernel
theorem dL_same_983 : decode cL_same 983 = .ok (.iinc 20 1, 3) := by decide +kernel
theorem dL_same_986 : decode cL_same 986 = .ok (.goto (-58), 3) := by decide +kernel
theorem dL_same_989 : decode cL_same 989 = .ok (.bipush (-6), 2) := by decide +kernel
theorem dL_same_991 : decode cL_same 991 = .ok (.istore 10, 2) := by decide +kernel
theorem dL_same_993 : decode cL_same 993 = .ok (.bipush (-6), 2) := by decide +kernel
theorem dL_same_995 : decode cL_same 995 = .ok (.istore 11, 2) := by decide +kernel
theorem dL_same_997 : decode cL_same 997 = .ok (.aload_n 2, 1) := by decide +kernel
theorem dL_same_998 : decode cL_same 998 = .ok (.iconst 3, 1) := by decide +kernel
theorem dL_same_999 : decode cL_same 999 = .ok (.iaload, 1) := by decide +kernel
theorem dL_same_1000 : decode cL_same 1000 = .ok (.iconst 1, 1) := by decide +kernel
theorem dL_same_1001 : decode cL_same 1001 = .ok (.isub, 1) := by decide +kernel
theorem dL_same_1002 : decode cL_same 1002 = .ok (.istore 12, 2) := by decide +kernel
theorem dL_same_1004 : decode cL_same 1004 = .ok (.iload 12, 2) := by decide +kernel
theorem dL_same_1006 : decode cL_same 1006 = .ok (.ifCond .lt 116, 3) := by decide +kernel
theorem dL_same_1009 : decode cL_same 1009 = .ok (.iload 7, 2) := by decide +kernel
theorem dL_same_1011 : decode cL_same 1011 = .ok (.iload 12, 2) := by decide +kernel
theorem dL_same_1013 : decode cL_same 1013 = .ok (.ishr, 1) := by decide +kernel
theorem dL_same_1014 : decode cL_same 1014 = .ok (.iconst 1, 1) := by decide +kernel
theorem dL_same_1015 : decode cL_same 1015 = .ok (.iand, 1) := by decide +kernel
theorem dL_same_1016 : decode cL_same 1016 = .ok (.ifCond .ne 6, 3) := by decide +kernel
theorem dL_same_1019 : decode cL_same 1019 = .ok (.goto 97, 3) := by decide +kernel
theorem dL_same_1022 : decode cL_same 1022 = .ok (.iconst 0, 1) := by decide +kernel
theorem dL_same_1023 : decode cL_same 1023 = .ok (.istore 13, 2) := by decide +kernel
theorem dL_same_1025 : decode cL_same 1025 = .ok (.iload 12, 2) := by decide +kernel
theorem dL_same_1027 : decode cL_same 1027 = .ok (.iconst 1, 1) := by decide +kernel
theorem dL_same_1028 : decode cL_same 1028 = .ok (.iadd, 1) := by decide +kernel
theorem dL_same_1029 : decode cL_same 1029 = .ok (.istore 14, 2) := by decide +kernel
theorem dL_same_1031 : decode cL_same 1031 = .ok (.iload 14, 2) := by decide +kernel
theorem dL_same_1033 : decode cL_same 1033 = .ok (.aload_n 2, 1) := by decide +kernel
theorem dL_same_1034 : decode cL_same 1034 = .ok (.iconst 3, 1) := by decide +kernel
theorem dL_same_1035 : decode cL_same 1035 = .ok (.iaload, 1) := by decide +kernel
theorem dL_same_1036 : decode cL_same 1036 = .ok (.if_icmp .ge 62, 3) := by decide +kernel
theorem dL_same_1039 : decode cL_same 1039 = .ok (.iload 14, 2) := by decide +kernel
theorem dL_same_1041 : decode cL_same 1041 = .ok (.istore 15, 2) := by decide +kernel
theorem dL_same_1043 : decode cL_same 1043 = .ok (.iload 15, 2) := by decide +kernel
theorem dL_same_1045 : decode cL_same 1045 = .ok (.iload 12, 2) := by decide +kernel
theorem dL_same_1047 : decode cL_same 1047 = .ok (.if_icmp .le 17, 3) := by decide +kernel
theorem dL_same_1050 : decode cL_same 1050 = .ok (.aload_n 3, 1) := by decide +kernel
theorem dL_same_1051 : decode cL_same 1051 = .ok (.bipush 8, 2) := by decide +kernel
theorem dL_same_1053 : decode cL_same 1053 = .ok (.iload 15, 2) := by decide +kernel
theorem dL_same_1055 : decode cL_same 1055 = .ok (.imul, 1) := by decide +kernel
theorem dL_same_1056 : decode cL_same 1056 = .ok (.iconst 1, 1) := by decide +kernel
theorem dL_same_1057 : decode cL_same 1057 = .ok (.iadd, 1) := by decide +kernel
theorem dL_same_1058 : decode cL_same 1058 = .ok (.iaload, 1) := by decide +kernel
theorem dL_same_1059 : decode cL_same 1059 = .ok (.istore 15, 2) := by decide +kernel
theorem dL_same_1061 : decode cL_same 1061 = .ok (.goto (-18), 3) := by decide +kernel
theorem dL_same_1064 : decode cL_same 1064 = .ok (.iload 13, 2) := by decide +kernel
theorem dL_same_1066 : decode cL_same 1066 = .ok (.iload 15, 2) := by decide +kernel
theorem dL_same_1068 : decode cL_same 1068 = .ok (.iload 12, 2) := by decide +kernel
theorem dL_same_1070 : decode cL_same 1070 = .ok (.if_icmp .ne 18, 3) := by decide +kernel
theorem dL_same_1073 : decode cL_same 1073 = .ok (.iload 7, 2) := by decide +kernel
theorem dL_same_1075 : decode cL_same 1075 = .ok (.iload 14, 2) := by decide +kernel
theorem dL_same_1077 : decode cL_same 1077 = .ok (.ishr, 1) := by decide +kernel
theorem dL_same_1078 : decode cL_same 1078 = .ok (.iconst 1, 1) := by decide +kernel
theorem dL_same_1079 : decode cL_same 1079 = .ok (.iand, 1) := by decide +kernel
theorem dL_same_1080 : decode cL_same 1080 = .ok (.iconst 1, 1) := by decide +kernel
theorem dL_same_1081 : decode cL_same 1081 = .ok (.if_icmp .ne 7, 3) := by decide +kernel
theorem dL_same_1084 : decode cL_same 1084 = .ok (.iconst 1, 1) := by decide +kernel
theorem dL_same_1085 : decode cL_same 1085 = .ok (.goto 4, 3) := by decide +kernel
theorem dL_same_1088 : decode cL_same 1088 = .ok (.iconst 0, 1) := by decide +kernel
theorem dL_same_1089 : decode cL_same 1089 = .ok (.iadd, 1) := by decide +kernel
theorem dL_same_1090 : decode cL_same 1090 = .ok (.istore 13, 2) := by decide +kernel
theorem dL_same_1092 : decode cL_same 1092 = .ok (.iinc 14 1, 3) := by decide +kernel
theorem dL_same_1095 : decode cL_same 1095 = .ok (.goto (-64), 3) := by decide +kernel
theorem dL_same_1098 : decode cL_same 1098 = .ok (.iload 13, 2) := by decide +kernel
theorem dL_same_1100 : decode cL_same 1100 = .ok (.iload 11, 2) := by decide +kernel
theorem dL_same_1102 : decode cL_same 1102 = .ok (.if_icmp .ge 6, 3) := by decide +kernel
theorem dL_same_1105 : decode cL_same 1105 = .ok (.goto 11, 3) := by decide +kernel
theorem dL_same_1108 : decode cL_same 1108 = .ok (.iload 13, 2) := by decide +kernel
theorem dL_same_1110 : decode cL_same 1110 = .ok (.istore 11, 2) := by decide +kernel
theorem dL_same_1112 : decode cL_same 1112 = .ok (.iload 12, 2) := by decide +kernel
theorem dL_same_1114 : decode cL_same 1114 = .ok (.istore 10, 2) := by decide +kernel
theorem dL_same_1116 : decode cL_same 1116 = .ok (.iinc 12 (-1), 3) := by decide +kernel
theorem dL_same_1119 : decode cL_same 1119 = .ok (.goto (-115), 3) := by decide +kernel
theorem dL_same_1122 : decode cL_same 1122 = .ok (.aload_n 0, 1) := by decide +kernel
theorem dL_same_1123 : decode cL_same 1123 = .ok (.iconst 0, 1) := by decide +kernel
theorem dL_same_1124 : decode cL_same 1124 = .ok (.invokevirtual 93, 3) := by decide +kernel
theorem dL_same_1127 : decode cL_same 1127 = .ok (.iload 10, 2) := by decide +kernel
theorem dL_same_1129 : decode cL_same 1129 = .ok (.if_icmp .ne 148, 3) := by decide +kernel
theorem dL_same_1132 : decode cL_same 1132 = .ok (.aload_n 0, 1) := by decide +kernel
theorem dL_same_1133 : decode cL_same 1133 = .ok (.iconst 1, 1) := by decide +kernel
theorem dL_same_1134 : decode cL_same 1134 = .ok (.invokevirtual 93, 3) := by decide +kernel
theorem dL_same_1137 : decode cL_same 1137 = .ok (.iload 11, 2) := by decide +kernel
theorem dL_same_1139 : decode cL_same 1139 = .ok (.if_icmp .ne 138, 3) := by decide +kernel
theorem dL_same_1142 : decode cL_same 1142 = .ok (.aload_n 0, 1) := by decide +kernel
theorem dL_same_1143 : decode cL_same 1143 = .ok (.invokevirtual 96, 3) := by decide +kernel
theorem dL_same_1146 : decode cL_same 1146 = .ok (.iload 7, 2) := by decide +kernel
theorem dL_same_1148 : decode cL_same 1148 = .ok (.if_icmp .ne 129, 3) := by decide +kernel
theorem dL_same_1151 : decode cL_same 1151 = .ok (.aload_n 0, 1) := by decide +kernel
theorem dL_same_1152 : decode cL_same 1152 = .ok (.iconst 0, 1) := by decide +kernel
theorem dL_same_1153 : decode cL_same 1153 = .ok (.invokevirtual 100, 3) := by decide +kernel
theorem dL_same_1156 : decode cL_same 1156 = .ok (.aload_n 2, 1) := by decide +kernel
theorem dL_same_1157 : decode cL_same 1157 = .ok (.iconst 3, 1) := by decide +kernel
theorem dL_same_1158 : decode cL_same 1158 = .ok (.iaload, 1) := by decide +kernel
theorem dL_same_1159 : decode cL_same 1159 = .ok (.if_icmp .ne 118, 3) := by decide +kernel
theorem dL_same_1162 : decode cL_same 1162 = .ok (.aload_n 0, 1) := by decide +kernel
theorem dL_same_1163 : decode cL_same 1163 = .ok (.iconst 1, 1) := by decide +kernel
theorem dL_same_1164 : decode cL_same 1164 = .ok (.invokevirtual 100, 3) := by decide +kernel
theorem dL_same_1167 : decode cL_same 1167 = .ok (.aload_n 2, 1) := by decide +kernel
theorem dL_same_1168 : decode cL_same 1168 = .ok (.iconst 4, 1) := by decide +kernel
theorem dL_same_1169 : decode cL_same 1169 = .ok (.iaload, 1) := by decide +kernel
theorem dL_same_1170 : decode cL_same 1170 = .ok (.if_icmp .ne 107, 3) := by decide +kernel
theorem dL_same_1173 : decode cL_same 1173 = .ok (.aload_n 0, 1) := by decide +kernel
theorem dL_same_1174 : decode cL_same 1174 = .ok (.iconst 2, 1) := by decide +kernel
theorem dL_same_1175 : decode cL_same 1175 = .ok (.invokevirtual 100, 3) := by decide +kernel
theorem dL_same_1178 : decode cL_same 1178 = .ok (.iload 5, 2) := by decide +kernel
theorem dL_same_1180 : decode cL_same 1180 = .ok (.if_icmp .ne 97, 3) := by decide +kernel
theorem dL_same_1183 : decode cL_same 1183 = .ok (.aload_n 0, 1) := by decide +kernel
theorem dL_same_1184 : decode cL_same 1184 = .ok (.iconst 3, 1) := by decide +kernel
theorem dL_same_1185 : decode cL_same 1185 = .ok (.invokevirtual 100, 3) := by decide +kernel
theorem dL_same_1188 : decode cL_same 1188 = .ok (.iload 6, 2) := by decide +kernel
theorem dL_same_1190 : decode cL_same 1190 = .ok (.if_icmp .ne 87, 3) := by decide +kernel
theorem dL_same_1193 : decode cL_same 1193 = .ok (.aload_n 0, 1) := by decide +kernel
theorem dL_same_1194 : decode cL_same 1194 = .ok (.iconst 4, 1) := by decide +kernel
theorem dL_same_1195 : decode cL_same 1195 = .ok (.invokevirtual 100, 3) := by decide +kernel
theorem dL_same_1198 : decode cL_same 1198 = .ok (.iload 8, 2) := by decide +kernel
theorem dL_same_1200 : decode cL_same 1200 = .ok (.if_icmp .ne 77, 3) := by decide +kernel
theorem dL_same_1203 : decode cL_same 1203 = .ok (.aload_n 0, 1) := by decide +kernel
theorem dL_same_1204 : decode cL_same 1204 = .ok (.iconst 5, 1) := by decide +kernel
theorem dL_same_1205 : decode cL_same 1205 = .ok (.invokevirtual 100, 3) := by decide +kernel
theorem dL_same_1208 : decode cL_same 1208 = .ok (.iload 9, 2) := by decide +kernel
theorem dL_same_1210 : decode cL_same 1210 = .ok (.if_icmp .ne 67, 3) := by decide +kernel
theorem dL_same_1213 : decode cL_same 1213 = .ok (.aload_n 0, 1) := by decide +kernel
theorem dL_same_1214 : decode cL_same 1214 = .ok (.bipush 6, 2) := by decide +kernel
theorem dL_same_1216 : decode cL_same 1216 = .ok (.invokevirtual 100, 3) := by decide +kernel
theorem dL_same_1219 : decode cL_same 1219 = .ok (.aload_n 2, 1) := by decide +kernel
theorem dL_same_1220 : decode cL_same 1220 = .ok (.iconst 0, 1) := by decide +kernel
theorem dL_same_1221 : decode cL_same 1221 = .ok (.iaload, 1) := by decide +kernel
theorem dL_same_1222 : decode cL_same 1222 = .ok (.if_icmp .ne 55, 3) := by decide +kernel
theorem dL_same_1225 : decode cL_same 1225 = .ok (.aload_n 0, 1) := by decide +kernel
theorem dL_same_1226 : decode cL_same 1226 = .ok (.bipush 7, 2) := by decide +kernel
theorem dL_same_1228 : decode cL_same 1228 = .ok (.invokevirtual 100, 3) := by decide +kernel
theorem dL_same_1231 : decode cL_same 1231 = .ok (.aload_n 2, 1) := by decide +kernel
theorem dL_same_1232 : decode cL_same 1232 = .ok (.iconst 1, 1) := by decide +kernel
theorem dL_same_1233 : decode cL_same 1233 = .ok (.iaload, 1) := by decide +kernel
theorem dL_same_1234 : decode cL_same 1234 = .ok (.if_icmp .ne 43, 3) := by decide +kernel
theorem dL_same_1237 : decode cL_same 1237 = .ok (.aload_n 0, 1) := by decide +kernel
theorem dL_same_1238 : decode cL_same 1238 = .ok (.bipush 8, 2) := by decide +kernel
theorem dL_same_1240 : decode cL_same 1240 = .ok (.invokevirtual 100, 3) := by decide +kernel
theorem dL_same_1243 : decode cL_same 1243 = .ok (.aload_n 2, 1) := by decide +kernel
theorem dL_same_1244 : decode cL_same 1244 = .ok (.iconst 2, 1) := by decide +kernel
theorem dL_same_1245 : decode cL_same 1245 = .ok (.iaload, 1) := by decide +kernel
theorem dL_same_1246 : decode cL_same 1246 = .ok (.if_icmp .ne 31, 3) := by decide +kernel
theorem dL_same_1249 : decode cL_same 1249 = .ok (.aload_n 0, 1) := by decide +kernel
theorem dL_same_1250 : decode cL_same 1250 = .ok (.aload_n 2, 1) := by decide +kernel
theorem dL_same_1251 : decode cL_same 1251 = .ok (.iconst 3, 1) := by decide +kernel
theorem dL_same_1252 : decode cL_same 1252 = .ok (.iaload, 1) := by decide +kernel
theorem dL_same_1253 : decode cL_same 1253 = .ok (.iconst 0, 1) := by decide +kernel
theorem dL_same_1254 : decode cL_same 1254 = .ok (.invokevirtual 55, 3) := by decide +kernel
theorem dL_same_1257 : decode cL_same 1257 = .ok (.iconst (-1), 1) := by decide +kernel
theorem dL_same_1258 : decode cL_same 1258 = .ok (.if_icmp .ne 19, 3) := by decide +kernel
theorem dL_same_1261 : decode cL_same 1261 = .ok (.aload_n 0, 1) := by decide +kernel
theorem dL_same_1262 : decode cL_same 1262 = .ok (.aload_n 2, 1) := by decide +kernel
theorem dL_same_1263 : decode cL_same 1263 = .ok (.iconst 4, 1) := by decide +kernel
theorem dL_same_1264 : decode cL_same 1264 = .ok (.iaload, 1) := by decide +kernel
theorem dL_same_1265 : decode cL_same 1265 = .ok (.iconst 0, 1) := by decide +kernel
theorem dL_same_1266 : decode cL_same 1266 = .ok (.invokevirtual 77, 3) := by decide +kernel
theorem dL_same_1269 : decode cL_same 1269 = .ok (.iconst (-1), 1) := by decide +kernel
theorem dL_same_1270 : decode cL_same 1270 = .ok (.if_icmp .ne 7, 3) := by decide +kernel
theorem dL_same_1273 : decode cL_same 1273 = .ok (.iconst 1, 1) := by decide +kernel
theorem dL_same_1274 : decode cL_same 1274 = .ok (.goto 4, 3) := by decide +kernel
theorem dL_same_1277 : decode cL_same 1277 = .ok (.iconst 0, 1) := by decide +kernel
theorem dL_same_1278 : decode cL_same 1278 = .ok (.ireturn, 1) := by decide +kernel
abbrev vwCl : List vw_C := [(RX0, TX0, 2), (RX1, TX1, 3), (RX2, TX2, 11), (RX3, TX3, 2), (RX4, TX4, 9), (RX5, TX5, 4), (RX6, TX6, 7)]
